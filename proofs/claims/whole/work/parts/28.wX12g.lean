/-! written by gen/drive.py -/
set_option maxHeartbeats 4000000 in
set_option maxRecDepth 100000 in
theorem w12_search_260 {m : Mm} {K : Option Value ⊕ String → Mm → Prop} (hm : St m) {v1 : Int32} {v2 : Int32} {v3 : Int32}  (h : ((¬ (mI m 668 57) = 0 → vp_in 5 6 ∧ vp_in 0 6 ∧ K (.inl (some (.int (mI m 708 0)))) (mSetI m 708 5 0)) ∧ ((mI m 668 57) = 0 → vp_in 5 6 ∧ vp_in 0 6 ∧ K (.inl (some (.int (mI m 708 0)))) (mSetI m 708 5 1)))) : V m12_search 260 [some (.ref 668), some (.int v1), some (.int v2), some (.int v3), none, none] [] m K := by
  refine r_aload_n (y := m12_search) dX12_search_260 rfl rfl ?_
  refine g_X12_128 (y := m12_search) rfl dX12_search_261 hm ?_
  refine r_iconst (y := m12_search) (v := 5) dX12_search_264 (by decide) ?_
  refine r_aload_n (y := m12_search) dX12_search_265 rfl rfl ?_
  refine g_X12_347 (y := m12_search) rfl dX12_search_266 hm ?_
  refine r_if_ne (y := m12_search) (tgt := 276) dX12_search_269 (by decide) (fun hc1 => ?_) (fun hc1 => ?_)
  · have h := h.1 hc1
    refine r_iconst (y := m12_search) (v := 0) dX12_search_276 (by decide) ?_
    obtain ⟨hb2, h⟩ := h
    refine r_iast (y := m12_search) (n := 6) dX12_search_277 (sa_708 hm) hb2 ?_
    refine r_aload_n (y := m12_search) dX12_search_278 rfl rfl ?_
    refine g_X12_128 (y := m12_search) rfl dX12_search_279 (St.i hm) ?_
    refine r_iconst (y := m12_search) (v := 0) dX12_search_282 (by decide) ?_
    obtain ⟨hb3, h⟩ := h
    refine r_iald (y := m12_search) (n := 6) dX12_search_283 (sa_708 (St.i hm)) hb3 ?_
    refine V.top (b := (mI m 708 0)) (by first | rfl | simp [mI_set, mI_setR]) ?_
    exact r_iret (y := m12_search) dX12_search_284 rfl rfl h
  · have h := h.2 hc1
    refine r_iconst (y := m12_search) (v := 1) dX12_search_272 (by decide) ?_
    refine r_goto (y := m12_search) (tgt := 277) dX12_search_273 (by decide) ?_
    obtain ⟨hb4, h⟩ := h
    refine r_iast (y := m12_search) (n := 6) dX12_search_277 (sa_708 hm) hb4 ?_
    refine r_aload_n (y := m12_search) dX12_search_278 rfl rfl ?_
    refine g_X12_128 (y := m12_search) rfl dX12_search_279 (St.i hm) ?_
    refine r_iconst (y := m12_search) (v := 0) dX12_search_282 (by decide) ?_
    obtain ⟨hb5, h⟩ := h
    refine r_iald (y := m12_search) (n := 6) dX12_search_283 (sa_708 (St.i hm)) hb5 ?_
    refine V.top (b := (mI m 708 0)) (by first | rfl | simp [mI_set, mI_setR]) ?_
    exact r_iret (y := m12_search) dX12_search_284 rfl rfl h
set_option maxHeartbeats 4000000 in
set_option maxRecDepth 100000 in
theorem w12_search_257 {m : Mm} {K : Option Value ⊕ String → Mm → Prop} (hm : St m) {v1 : Int32} {v2 : Int32} {v3 : Int32} {v4 : Int32}  (h : V m12_search 88 [some (.ref 668), some (.int v1), some (.int v2), some (.int v3), some (.int v4), none] [] m K) : V m12_search 257 [some (.ref 668), some (.int v1), some (.int v2), some (.int v3), some (.int v4), none] [] m K := by
  refine r_goto (y := m12_search) (tgt := 88) dX12_search_257 (by decide) ?_
  exact h
set_option maxHeartbeats 4000000 in
set_option maxRecDepth 100000 in
theorem w12_search_181 {m : Mm} {K : Option Value ⊕ String → Mm → Prop} (hm : St m) {v1 : Int32} {v2 : Int32} {v3 : Int32} {v4 : Int32} {v5 : Int32}  (h : (((mI m 668 39) ≤ v5 → V m12_search 257 [some (.ref 668), some (.int v1), some (.int v2), some (.int v3), some (.int v4), some (.int v5)] [] m K) ∧ (¬ (mI m 668 39) ≤ v5 → ((¬ v1 = 0 → C m12_lays [(.ref 668), (.int v5)] m (fun o m3 => o = .inl none ∧ St m3 ∧ V m12_search 181 [some (.ref 668), some (.int v1), some (.int v2), some (.int v3), some (.int v4), some (.int (v5 + 1))] [] m3 K)) ∧ (v1 = 0 → C m12_lays [(.ref 668), (.int (((mI m 668 39) - 1) - v5))] m (fun o m5 => o = .inl none ∧ St m5 ∧ V m12_search 181 [some (.ref 668), some (.int v1), some (.int v2), some (.int v3), some (.int v4), some (.int (v5 + 1))] [] m5 K)))))) : V m12_search 181 [some (.ref 668), some (.int v1), some (.int v2), some (.int v3), some (.int v4), some (.int v5)] [] m K := by
  refine r_iload (y := m12_search) dX12_search_181 rfl ?_
  refine r_aload_n (y := m12_search) dX12_search_183 rfl rfl ?_
  refine g_X12_248 (y := m12_search) rfl dX12_search_184 hm ?_
  refine r_icmp_ge (y := m12_search) (tgt := 218) dX12_search_187 (by decide) (fun hc1 => ?_) (fun hc1 => ?_)
  · have h := h.1 hc1
    refine r_goto (y := m12_search) (tgt := 257) dX12_search_218 (by decide) ?_
    exact h
  · have h := h.2 hc1
    refine r_aload_n (y := m12_search) dX12_search_190 rfl rfl ?_
    refine r_iload_n (y := m12_search) dX12_search_191 rfl rfl ?_
    refine r_if_ne (y := m12_search) (tgt := 207) dX12_search_192 (by decide) (fun hc2 => ?_) (fun hc2 => ?_)
    · have h := h.1 hc2
      refine r_iload (y := m12_search) dX12_search_207 rfl ?_
      refine r_callV (y := m12_search) (As := [(.int v5)]) (b := 668) (ci := 12) dX12_search_209 rfl k12_lays lm_X12_350 rfl ⟨by decide, by decide⟩ (so_668 hm) (by decide) rfl (Nat.le_of_ble_eq_true rfl) (C.mono h ?_)
      rintro _ m3 ⟨rfl, hm4, h⟩
      refine ⟨none, rfl, ?_⟩
      refine r_iinc (y := m12_search) (v := (v5 + 1)) (L' := [some (.ref 668), some (.int v1), some (.int v2), some (.int v3), some (.int v4), some (.int (v5 + 1))]) dX12_search_212 rfl (by rfl) rfl ?_
      refine r_goto (y := m12_search) (tgt := 181) dX12_search_215 (by decide) ?_
      exact h
    · have h := h.2 hc2
      refine r_aload_n (y := m12_search) dX12_search_195 rfl rfl ?_
      refine g_X12_248 (y := m12_search) rfl dX12_search_196 hm ?_
      refine r_iconst (y := m12_search) (v := 1) dX12_search_199 (by decide) ?_
      refine r_isub (y := m12_search) dX12_search_200 ?_
      refine r_iload (y := m12_search) dX12_search_201 rfl ?_
      refine r_isub (y := m12_search) dX12_search_203 ?_
      refine r_goto (y := m12_search) (tgt := 209) dX12_search_204 (by decide) ?_
      refine r_callV (y := m12_search) (As := [(.int (((mI m 668 39) - 1) - v5))]) (b := 668) (ci := 12) dX12_search_209 rfl k12_lays lm_X12_350 rfl ⟨by decide, by decide⟩ (so_668 hm) (by decide) rfl (Nat.le_of_ble_eq_true rfl) (C.mono h ?_)
      rintro _ m5 ⟨rfl, hm6, h⟩
      refine ⟨none, rfl, ?_⟩
      refine r_iinc (y := m12_search) (v := (v5 + 1)) (L' := [some (.ref 668), some (.int v1), some (.int v2), some (.int v3), some (.int v4), some (.int (v5 + 1))]) dX12_search_212 rfl (by rfl) rfl ?_
      refine r_goto (y := m12_search) (tgt := 181) dX12_search_215 (by decide) ?_
      exact h
set_option maxHeartbeats 4000000 in
set_option maxRecDepth 100000 in
theorem w12_count {m : Mm} {K : Option Value ⊕ String → Mm → Prop} (hm : St m) {a0 : Int32}  (h : C m12_in [(.int a0), (.int 0), (.int 5)] m (fun o m1 => ∃ x3 : Int32, o = .inl (some (.int x3)) ∧ St m1 ∧ ((x3 = 0 → ((¬ (1 : Int32) = 0 → K (.inl (some (.int 0))) (mSetI m1 668 12 1)) ∧ ((1 : Int32) = 0 → vp_in a0 6 ∧ K (.inl (some (.int (mI m1 708 (Int32.toNatClampNeg a0))))) (mSetI m1 668 12 1)))) ∧ (¬ x3 = 0 → ((¬ (0 : Int32) = 0 → K (.inl (some (.int 0))) (mSetI m1 668 12 0)) ∧ ((0 : Int32) = 0 → vp_in a0 6 ∧ K (.inl (some (.int (mI m1 708 (Int32.toNatClampNeg a0))))) (mSetI m1 668 12 0))))))) : V m12_count 0 [some (.ref 668), some (.int a0)] [] m K := by
  refine r_aload_n (y := m12_count) dX12_count_0 rfl rfl ?_
  refine r_iload_n (y := m12_count) dX12_count_1 rfl rfl ?_
  refine r_iconst (y := m12_count) (v := 0) dX12_count_2 (by decide) ?_
  refine r_iconst (y := m12_count) (v := 5) dX12_count_3 (by decide) ?_
  refine r_callS (y := m12_count) (As := [(.int a0), (.int 0), (.int 5)]) dX12_count_4 rfl k12_in lm_X12_154 rfl ⟨by decide, by decide⟩ (Nat.le_of_ble_eq_true rfl) (C.mono h ?_)
  rintro _ m1 ⟨x3, rfl, hm2, h⟩
  refine ⟨_, rfl, ?_⟩
  refine r_if_eq (y := m12_count) (tgt := 14) dX12_count_7 (by decide) (fun hc4 => ?_) (fun hc4 => ?_)
  · have h := h.1 hc4
    refine r_iconst (y := m12_count) (v := 1) dX12_count_14 (by decide) ?_
    refine p_X12_147 (y := m12_count) rfl dX12_count_15 hm2 ?_
    refine r_aload_n (y := m12_count) dX12_count_18 rfl rfl ?_
    refine g_X12_147 (y := m12_count) rfl dX12_count_19 (St.i hm2) ?_
    refine V.top (b := 1) (by first | rfl | simp [mI_set, mI_setR]) ?_
    refine r_if_ne (y := m12_count) (tgt := 34) dX12_count_22 (by decide) (fun hc5 => ?_) (fun hc5 => ?_)
    · have h := h.1 hc5
      refine r_iconst (y := m12_count) (v := 0) dX12_count_34 (by decide) ?_
      exact r_iret (y := m12_count) dX12_count_35 rfl rfl h
    · have h := h.2 hc5
      refine r_aload_n (y := m12_count) dX12_count_25 rfl rfl ?_
      refine g_X12_128 (y := m12_count) rfl dX12_count_26 (St.i hm2) ?_
      refine r_iload_n (y := m12_count) dX12_count_29 rfl rfl ?_
      obtain ⟨hb6, h⟩ := h
      refine r_iald (y := m12_count) (n := 6) dX12_count_30 (sa_708 (St.i hm2)) hb6 ?_
      refine V.top (b := (mI m1 708 (Int32.toNatClampNeg a0))) (by first | rfl | simp [mI_set, mI_setR]) ?_
      refine r_goto (y := m12_count) (tgt := 35) dX12_count_31 (by decide) ?_
      exact r_iret (y := m12_count) dX12_count_35 rfl rfl h
  · have h := h.2 hc4
    refine r_iconst (y := m12_count) (v := 0) dX12_count_10 (by decide) ?_
    refine r_goto (y := m12_count) (tgt := 15) dX12_count_11 (by decide) ?_
    refine p_X12_147 (y := m12_count) rfl dX12_count_15 hm2 ?_
    refine r_aload_n (y := m12_count) dX12_count_18 rfl rfl ?_
    refine g_X12_147 (y := m12_count) rfl dX12_count_19 (St.i hm2) ?_
    refine V.top (b := 0) (by first | rfl | simp [mI_set, mI_setR]) ?_
    refine r_if_ne (y := m12_count) (tgt := 34) dX12_count_22 (by decide) (fun hc7 => ?_) (fun hc7 => ?_)
    · have h := h.1 hc7
      refine r_iconst (y := m12_count) (v := 0) dX12_count_34 (by decide) ?_
      exact r_iret (y := m12_count) dX12_count_35 rfl rfl h
    · have h := h.2 hc7
      refine r_aload_n (y := m12_count) dX12_count_25 rfl rfl ?_
      refine g_X12_128 (y := m12_count) rfl dX12_count_26 (St.i hm2) ?_
      refine r_iload_n (y := m12_count) dX12_count_29 rfl rfl ?_
      obtain ⟨hb8, h⟩ := h
      refine r_iald (y := m12_count) (n := 6) dX12_count_30 (sa_708 (St.i hm2)) hb8 ?_
      refine V.top (b := (mI m1 708 (Int32.toNatClampNeg a0))) (by first | rfl | simp [mI_set, mI_setR]) ?_
      refine r_goto (y := m12_count) (tgt := 35) dX12_count_31 (by decide) ?_
      exact r_iret (y := m12_count) dX12_count_35 rfl rfl h
set_option maxHeartbeats 4000000 in
set_option maxRecDepth 100000 in
theorem w12_isValue {m : Mm} {K : Option Value ⊕ String → Mm → Prop} (hm : St m) {a0 : Int32}  (h : C m12_in [(.int a0), (.int 0), (.int ((mI m 668 50) - 1))] m (fun o m1 => ∃ x3 : Int32, o = .inl (some (.int x3)) ∧ St m1 ∧ (narrow .boolean (.int x3) = .int x3 ∧ K (.inl (some (.int x3))) m1))) : V m12_isValue 0 [some (.ref 668), some (.int a0)] [] m K := by
  refine r_iload_n (y := m12_isValue) dX12_isValue_0 rfl rfl ?_
  refine r_iconst (y := m12_isValue) (v := 0) dX12_isValue_1 (by decide) ?_
  refine r_aload_n (y := m12_isValue) dX12_isValue_2 rfl rfl ?_
  refine g_X12_224 (y := m12_isValue) rfl dX12_isValue_3 hm ?_
  refine r_iconst (y := m12_isValue) (v := 1) dX12_isValue_6 (by decide) ?_
  refine r_isub (y := m12_isValue) dX12_isValue_7 ?_
  refine r_callS (y := m12_isValue) (As := [(.int a0), (.int 0), (.int ((mI m 668 50) - 1))]) dX12_isValue_8 rfl k12_in lm_X12_154 rfl ⟨by decide, by decide⟩ (Nat.le_of_ble_eq_true rfl) (C.mono h ?_)
  rintro _ m1 ⟨x3, rfl, hm2, h⟩
  refine ⟨_, rfl, ?_⟩
  exact r_iret (y := m12_isValue) (ty := .boolean) dX12_isValue_11 rfl h.1 h.2
set_option maxHeartbeats 4000000 in
set_option maxRecDepth 100000 in
theorem w12_told {m : Mm} {K : Option Value ⊕ String → Mm → Prop} (hm : St m) {a0 : Int32} {a1 : Int32}  (h : vp_in a0 70 ∧ (((mI m 703 (Int32.toNatClampNeg a0)) ≤ a1 → K (.inl (some (.int (-1)))) m) ∧ (¬ (mI m 703 (Int32.toNatClampNeg a0)) ≤ a1 → vp_in ((40 * a0) + a1) 2800 ∧ K (.inl (some (.int (mI m 704 (Int32.toNatClampNeg ((40 * a0) + a1)))))) m))) : V m12_told 0 [some (.ref 668), some (.int a0), some (.int a1)] [] m K := by
  refine r_iload_n (y := m12_told) dX12_told_0 rfl rfl ?_
  refine r_aload_n (y := m12_told) dX12_told_1 rfl rfl ?_
  refine g_X12_113 (y := m12_told) rfl dX12_told_2 hm ?_
  refine r_iload_n (y := m12_told) dX12_told_5 rfl rfl ?_
  obtain ⟨hb1, h⟩ := h
  refine r_iald (y := m12_told) (n := 70) dX12_told_6 (sa_703 hm) hb1 ?_
  refine r_icmp_ge (y := m12_told) (tgt := 24) dX12_told_7 (by decide) (fun hc2 => ?_) (fun hc2 => ?_)
  · have h := h.1 hc2
    refine r_iconst (y := m12_told) (v := (-1)) dX12_told_24 (by decide) ?_
    exact r_iret (y := m12_told) dX12_told_25 rfl rfl h
  · have h := h.2 hc2
    refine r_aload_n (y := m12_told) dX12_told_10 rfl rfl ?_
    refine g_X12_116 (y := m12_told) rfl dX12_told_11 hm ?_
    refine r_bipush (y := m12_told) (v := 40) dX12_told_14 (by decide) ?_
    refine r_iload_n (y := m12_told) dX12_told_16 rfl rfl ?_
    refine r_imul (y := m12_told) dX12_told_17 ?_
    refine r_iload_n (y := m12_told) dX12_told_18 rfl rfl ?_
    refine r_iadd (y := m12_told) dX12_told_19 ?_
    obtain ⟨hb3, h⟩ := h
    refine r_iald (y := m12_told) (n := 2800) dX12_told_20 (sa_704 hm) hb3 ?_
    refine r_goto (y := m12_told) (tgt := 25) dX12_told_21 (by decide) ?_
    exact r_iret (y := m12_told) dX12_told_25 rfl rfl h
set_option maxHeartbeats 4000000 in
set_option maxRecDepth 100000 in
theorem w12_part {m : Mm} {K : Option Value ⊕ String → Mm → Prop} (hm : St m) {a0 : Int32} {a1 : Int32}  (h : C m12_isValue [(.ref 668), (.int a0)] m (fun o m1 => ∃ x3 : Int32, o = .inl (some (.int x3)) ∧ St m1 ∧ ((x3 = 0 → ((¬ (1 : Int32) = 0 → K (.inl (some (.int 0))) (mSetI m1 668 12 1)) ∧ ((1 : Int32) = 0 → C m12_told [(.ref 668), (.int (7 * a0)), (.int a1)] (mSetI m1 668 12 1) (fun o m6 => ∃ x8 : Int32, o = .inl (some (.int x8)) ∧ St m6 ∧ K (.inl (some (.int x8))) m6)))) ∧ (¬ x3 = 0 → ((a1 < 0 → ((¬ (1 : Int32) = 0 → K (.inl (some (.int 0))) (mSetI m1 668 12 1)) ∧ ((1 : Int32) = 0 → C m12_told [(.ref 668), (.int (7 * a0)), (.int a1)] (mSetI m1 668 12 1) (fun o m11 => ∃ x13 : Int32, o = .inl (some (.int x13)) ∧ St m11 ∧ K (.inl (some (.int x13))) m11)))) ∧ (¬ a1 < 0 → ((¬ (0 : Int32) = 0 → K (.inl (some (.int 0))) (mSetI m1 668 12 0)) ∧ ((0 : Int32) = 0 → C m12_told [(.ref 668), (.int (7 * a0)), (.int a1)] (mSetI m1 668 12 0) (fun o m15 => ∃ x17 : Int32, o = .inl (some (.int x17)) ∧ St m15 ∧ K (.inl (some (.int x17))) m15))))))))) : V m12_part 0 [some (.ref 668), some (.int a0), some (.int a1)] [] m K := by
  refine r_aload_n (y := m12_part) dX12_part_0 rfl rfl ?_
  refine r_aload_n (y := m12_part) dX12_part_1 rfl rfl ?_
  refine r_iload_n (y := m12_part) dX12_part_2 rfl rfl ?_
  refine r_callV (y := m12_part) (As := [(.int a0)]) (b := 668) (ci := 12) dX12_part_3 rfl k12_isValue lm_X12_363 rfl ⟨by decide, by decide⟩ (so_668 hm) (by decide) rfl (Nat.le_of_ble_eq_true rfl) (C.mono h ?_)
  rintro _ m1 ⟨x3, rfl, hm2, h⟩
  refine ⟨_, rfl, ?_⟩
  refine r_if_eq (y := m12_part) (tgt := 17) dX12_part_6 (by decide) (fun hc4 => ?_) (fun hc4 => ?_)
  · have h := h.1 hc4
    refine r_iconst (y := m12_part) (v := 1) dX12_part_17 (by decide) ?_
    refine p_X12_147 (y := m12_part) rfl dX12_part_18 hm2 ?_
    refine r_aload_n (y := m12_part) dX12_part_21 rfl rfl ?_
    refine g_X12_147 (y := m12_part) rfl dX12_part_22 (St.i hm2) ?_
    refine V.top (b := 1) (by first | rfl | simp [mI_set, mI_setR]) ?_
    refine r_if_ne (y := m12_part) (tgt := 40) dX12_part_25 (by decide) (fun hc5 => ?_) (fun hc5 => ?_)
    · have h := h.1 hc5
      refine r_iconst (y := m12_part) (v := 0) dX12_part_40 (by decide) ?_
      exact r_iret (y := m12_part) dX12_part_41 rfl rfl h
    · have h := h.2 hc5
      refine r_aload_n (y := m12_part) dX12_part_28 rfl rfl ?_
      refine r_bipush (y := m12_part) (v := 7) dX12_part_29 (by decide) ?_
      refine r_iload_n (y := m12_part) dX12_part_31 rfl rfl ?_
      refine r_imul (y := m12_part) dX12_part_32 ?_
      refine r_iload_n (y := m12_part) dX12_part_33 rfl rfl ?_
      refine r_callV (y := m12_part) (As := [(.int (7 * a0)), (.int a1)]) (b := 668) (ci := 12) dX12_part_34 rfl k12_told lm_X12_366 rfl ⟨by decide, by decide⟩ (so_668 (St.i hm2)) (by decide) rfl (Nat.le_of_ble_eq_true rfl) (C.mono h ?_)
      rintro _ m6 ⟨x8, rfl, hm7, h⟩
      refine ⟨_, rfl, ?_⟩
      refine r_goto (y := m12_part) (tgt := 41) dX12_part_37 (by decide) ?_
      exact r_iret (y := m12_part) dX12_part_41 rfl rfl h
  · have h := h.2 hc4
    refine r_iload_n (y := m12_part) dX12_part_9 rfl rfl ?_
    refine r_if_lt (y := m12_part) (tgt := 17) dX12_part_10 (by decide) (fun hc9 => ?_) (fun hc9 => ?_)
    · have h := h.1 hc9
      refine r_iconst (y := m12_part) (v := 1) dX12_part_17 (by decide) ?_
      refine p_X12_147 (y := m12_part) rfl dX12_part_18 hm2 ?_
      refine r_aload_n (y := m12_part) dX12_part_21 rfl rfl ?_
      refine g_X12_147 (y := m12_part) rfl dX12_part_22 (St.i hm2) ?_
      refine V.top (b := 1) (by first | rfl | simp [mI_set, mI_setR]) ?_
      refine r_if_ne (y := m12_part) (tgt := 40) dX12_part_25 (by decide) (fun hc10 => ?_) (fun hc10 => ?_)
      · have h := h.1 hc10
        refine r_iconst (y := m12_part) (v := 0) dX12_part_40 (by decide) ?_
        exact r_iret (y := m12_part) dX12_part_41 rfl rfl h
      · have h := h.2 hc10
        refine r_aload_n (y := m12_part) dX12_part_28 rfl rfl ?_
        refine r_bipush (y := m12_part) (v := 7) dX12_part_29 (by decide) ?_
        refine r_iload_n (y := m12_part) dX12_part_31 rfl rfl ?_
        refine r_imul (y := m12_part) dX12_part_32 ?_
        refine r_iload_n (y := m12_part) dX12_part_33 rfl rfl ?_
        refine r_callV (y := m12_part) (As := [(.int (7 * a0)), (.int a1)]) (b := 668) (ci := 12) dX12_part_34 rfl k12_told lm_X12_366 rfl ⟨by decide, by decide⟩ (so_668 (St.i hm2)) (by decide) rfl (Nat.le_of_ble_eq_true rfl) (C.mono h ?_)
        rintro _ m11 ⟨x13, rfl, hm12, h⟩
        refine ⟨_, rfl, ?_⟩
        refine r_goto (y := m12_part) (tgt := 41) dX12_part_37 (by decide) ?_
        exact r_iret (y := m12_part) dX12_part_41 rfl rfl h
    · have h := h.2 hc9
      refine r_iconst (y := m12_part) (v := 0) dX12_part_13 (by decide) ?_
      refine r_goto (y := m12_part) (tgt := 18) dX12_part_14 (by decide) ?_
      refine p_X12_147 (y := m12_part) rfl dX12_part_18 hm2 ?_
      refine r_aload_n (y := m12_part) dX12_part_21 rfl rfl ?_
      refine g_X12_147 (y := m12_part) rfl dX12_part_22 (St.i hm2) ?_
      refine V.top (b := 0) (by first | rfl | simp [mI_set, mI_setR]) ?_
      refine r_if_ne (y := m12_part) (tgt := 40) dX12_part_25 (by decide) (fun hc14 => ?_) (fun hc14 => ?_)
      · have h := h.1 hc14
        refine r_iconst (y := m12_part) (v := 0) dX12_part_40 (by decide) ?_
        exact r_iret (y := m12_part) dX12_part_41 rfl rfl h
      · have h := h.2 hc14
        refine r_aload_n (y := m12_part) dX12_part_28 rfl rfl ?_
        refine r_bipush (y := m12_part) (v := 7) dX12_part_29 (by decide) ?_
        refine r_iload_n (y := m12_part) dX12_part_31 rfl rfl ?_
        refine r_imul (y := m12_part) dX12_part_32 ?_
        refine r_iload_n (y := m12_part) dX12_part_33 rfl rfl ?_
        refine r_callV (y := m12_part) (As := [(.int (7 * a0)), (.int a1)]) (b := 668) (ci := 12) dX12_part_34 rfl k12_told lm_X12_366 rfl ⟨by decide, by decide⟩ (so_668 (St.i hm2)) (by decide) rfl (Nat.le_of_ble_eq_true rfl) (C.mono h ?_)
        rintro _ m15 ⟨x17, rfl, hm16, h⟩
        refine ⟨_, rfl, ?_⟩
        refine r_goto (y := m12_part) (tgt := 41) dX12_part_37 (by decide) ?_
        exact r_iret (y := m12_part) dX12_part_41 rfl rfl h
set_option maxHeartbeats 4000000 in
set_option maxRecDepth 100000 in
theorem w12_bound {m : Mm} {K : Option Value ⊕ String → Mm → Prop} (hm : St m) {a0 : Int32} {a1 : Int32} {a2 : Int32}  (h : C m12_isValue [(.ref 668), (.int a0)] m (fun o m1 => ∃ x3 : Int32, o = .inl (some (.int x3)) ∧ St m1 ∧ ((x3 = 0 → ((¬ (1 : Int32) = 0 → K (.inl (some (.int 0))) (mSetI m1 668 12 1)) ∧ ((1 : Int32) = 0 → C m12_told [(.ref 668), (.int (((7 * a0) + 1) + a1)), (.int a2)] (mSetI m1 668 12 1) (fun o m6 => ∃ x8 : Int32, o = .inl (some (.int x8)) ∧ St m6 ∧ K (.inl (some (.int x8))) m6)))) ∧ (¬ x3 = 0 → C m12_in [(.int a1), (.int 0), (.int 5)] m1 (fun o m9 => ∃ x11 : Int32, o = .inl (some (.int x11)) ∧ St m9 ∧ ((x11 = 0 → ((¬ (1 : Int32) = 0 → K (.inl (some (.int 0))) (mSetI m9 668 12 1)) ∧ ((1 : Int32) = 0 → C m12_told [(.ref 668), (.int (((7 * a0) + 1) + a1)), (.int a2)] (mSetI m9 668 12 1) (fun o m14 => ∃ x16 : Int32, o = .inl (some (.int x16)) ∧ St m14 ∧ K (.inl (some (.int x16))) m14)))) ∧ (¬ x11 = 0 → ((a2 < 0 → ((¬ (1 : Int32) = 0 → K (.inl (some (.int 0))) (mSetI m9 668 12 1)) ∧ ((1 : Int32) = 0 → C m12_told [(.ref 668), (.int (((7 * a0) + 1) + a1)), (.int a2)] (mSetI m9 668 12 1) (fun o m19 => ∃ x21 : Int32, o = .inl (some (.int x21)) ∧ St m19 ∧ K (.inl (some (.int x21))) m19)))) ∧ (¬ a2 < 0 → ((¬ (0 : Int32) = 0 → K (.inl (some (.int 0))) (mSetI m9 668 12 0)) ∧ ((0 : Int32) = 0 → C m12_told [(.ref 668), (.int (((7 * a0) + 1) + a1)), (.int a2)] (mSetI m9 668 12 0) (fun o m23 => ∃ x25 : Int32, o = .inl (some (.int x25)) ∧ St m23 ∧ K (.inl (some (.int x25))) m23)))))))))))) : V m12_bound 0 [some (.ref 668), some (.int a0), some (.int a1), some (.int a2)] [] m K := by
  refine r_aload_n (y := m12_bound) dX12_bound_0 rfl rfl ?_
  refine r_aload_n (y := m12_bound) dX12_bound_1 rfl rfl ?_
  refine r_iload_n (y := m12_bound) dX12_bound_2 rfl rfl ?_
  refine r_callV (y := m12_bound) (As := [(.int a0)]) (b := 668) (ci := 12) dX12_bound_3 rfl k12_isValue lm_X12_363 rfl ⟨by decide, by decide⟩ (so_668 hm) (by decide) rfl (Nat.le_of_ble_eq_true rfl) (C.mono h ?_)
  rintro _ m1 ⟨x3, rfl, hm2, h⟩
  refine ⟨_, rfl, ?_⟩
  refine r_if_eq (y := m12_bound) (tgt := 26) dX12_bound_6 (by decide) (fun hc4 => ?_) (fun hc4 => ?_)
  · have h := h.1 hc4
    refine r_iconst (y := m12_bound) (v := 1) dX12_bound_26 (by decide) ?_
    refine p_X12_147 (y := m12_bound) rfl dX12_bound_27 hm2 ?_
    refine r_aload_n (y := m12_bound) dX12_bound_30 rfl rfl ?_
    refine g_X12_147 (y := m12_bound) rfl dX12_bound_31 (St.i hm2) ?_
    refine V.top (b := 1) (by first | rfl | simp [mI_set, mI_setR]) ?_
    refine r_if_ne (y := m12_bound) (tgt := 53) dX12_bound_34 (by decide) (fun hc5 => ?_) (fun hc5 => ?_)
    · have h := h.1 hc5
      refine r_iconst (y := m12_bound) (v := 0) dX12_bound_53 (by decide) ?_
      exact r_iret (y := m12_bound) dX12_bound_54 rfl rfl h
    · have h := h.2 hc5
      refine r_aload_n (y := m12_bound) dX12_bound_37 rfl rfl ?_
      refine r_bipush (y := m12_bound) (v := 7) dX12_bound_38 (by decide) ?_
      refine r_iload_n (y := m12_bound) dX12_bound_40 rfl rfl ?_
      refine r_imul (y := m12_bound) dX12_bound_41 ?_
      refine r_iconst (y := m12_bound) (v := 1) dX12_bound_42 (by decide) ?_
      refine r_iadd (y := m12_bound) dX12_bound_43 ?_
      refine r_iload_n (y := m12_bound) dX12_bound_44 rfl rfl ?_
      refine r_iadd (y := m12_bound) dX12_bound_45 ?_
      refine r_iload_n (y := m12_bound) dX12_bound_46 rfl rfl ?_
      refine r_callV (y := m12_bound) (As := [(.int (((7 * a0) + 1) + a1)), (.int a2)]) (b := 668) (ci := 12) dX12_bound_47 rfl k12_told lm_X12_366 rfl ⟨by decide, by decide⟩ (so_668 (St.i hm2)) (by decide) rfl (Nat.le_of_ble_eq_true rfl) (C.mono h ?_)
      rintro _ m6 ⟨x8, rfl, hm7, h⟩
      refine ⟨_, rfl, ?_⟩
      refine r_goto (y := m12_bound) (tgt := 54) dX12_bound_50 (by decide) ?_
      exact r_iret (y := m12_bound) dX12_bound_54 rfl rfl h
  · have h := h.2 hc4
    refine r_iload_n (y := m12_bound) dX12_bound_9 rfl rfl ?_
    refine r_iconst (y := m12_bound) (v := 0) dX12_bound_10 (by decide) ?_
    refine r_iconst (y := m12_bound) (v := 5) dX12_bound_11 (by decide) ?_
    refine r_callS (y := m12_bound) (As := [(.int a1), (.int 0), (.int 5)]) dX12_bound_12 rfl k12_in lm_X12_154 rfl ⟨by decide, by decide⟩ (Nat.le_of_ble_eq_true rfl) (C.mono h ?_)
    rintro _ m9 ⟨x11, rfl, hm10, h⟩
    refine ⟨_, rfl, ?_⟩
    refine r_if_eq (y := m12_bound) (tgt := 26) dX12_bound_15 (by decide) (fun hc12 => ?_) (fun hc12 => ?_)
    · have h := h.1 hc12
      refine r_iconst (y := m12_bound) (v := 1) dX12_bound_26 (by decide) ?_
      refine p_X12_147 (y := m12_bound) rfl dX12_bound_27 hm10 ?_
      refine r_aload_n (y := m12_bound) dX12_bound_30 rfl rfl ?_
      refine g_X12_147 (y := m12_bound) rfl dX12_bound_31 (St.i hm10) ?_
      refine V.top (b := 1) (by first | rfl | simp [mI_set, mI_setR]) ?_
      refine r_if_ne (y := m12_bound) (tgt := 53) dX12_bound_34 (by decide) (fun hc13 => ?_) (fun hc13 => ?_)
      · have h := h.1 hc13
        refine r_iconst (y := m12_bound) (v := 0) dX12_bound_53 (by decide) ?_
        exact r_iret (y := m12_bound) dX12_bound_54 rfl rfl h
      · have h := h.2 hc13
        refine r_aload_n (y := m12_bound) dX12_bound_37 rfl rfl ?_
        refine r_bipush (y := m12_bound) (v := 7) dX12_bound_38 (by decide) ?_
        refine r_iload_n (y := m12_bound) dX12_bound_40 rfl rfl ?_
        refine r_imul (y := m12_bound) dX12_bound_41 ?_
        refine r_iconst (y := m12_bound) (v := 1) dX12_bound_42 (by decide) ?_
        refine r_iadd (y := m12_bound) dX12_bound_43 ?_
        refine r_iload_n (y := m12_bound) dX12_bound_44 rfl rfl ?_
        refine r_iadd (y := m12_bound) dX12_bound_45 ?_
        refine r_iload_n (y := m12_bound) dX12_bound_46 rfl rfl ?_
        refine r_callV (y := m12_bound) (As := [(.int (((7 * a0) + 1) + a1)), (.int a2)]) (b := 668) (ci := 12) dX12_bound_47 rfl k12_told lm_X12_366 rfl ⟨by decide, by decide⟩ (so_668 (St.i hm10)) (by decide) rfl (Nat.le_of_ble_eq_true rfl) (C.mono h ?_)
        rintro _ m14 ⟨x16, rfl, hm15, h⟩
        refine ⟨_, rfl, ?_⟩
        refine r_goto (y := m12_bound) (tgt := 54) dX12_bound_50 (by decide) ?_
        exact r_iret (y := m12_bound) dX12_bound_54 rfl rfl h
    · have h := h.2 hc12
      refine r_iload_n (y := m12_bound) dX12_bound_18 rfl rfl ?_
      refine r_if_lt (y := m12_bound) (tgt := 26) dX12_bound_19 (by decide) (fun hc17 => ?_) (fun hc17 => ?_)
      · have h := h.1 hc17
        refine r_iconst (y := m12_bound) (v := 1) dX12_bound_26 (by decide) ?_
        refine p_X12_147 (y := m12_bound) rfl dX12_bound_27 hm10 ?_
        refine r_aload_n (y := m12_bound) dX12_bound_30 rfl rfl ?_
        refine g_X12_147 (y := m12_bound) rfl dX12_bound_31 (St.i hm10) ?_
        refine V.top (b := 1) (by first | rfl | simp [mI_set, mI_setR]) ?_
        refine r_if_ne (y := m12_bound) (tgt := 53) dX12_bound_34 (by decide) (fun hc18 => ?_) (fun hc18 => ?_)
        · have h := h.1 hc18
          refine r_iconst (y := m12_bound) (v := 0) dX12_bound_53 (by decide) ?_
          exact r_iret (y := m12_bound) dX12_bound_54 rfl rfl h
        · have h := h.2 hc18
          refine r_aload_n (y := m12_bound) dX12_bound_37 rfl rfl ?_
          refine r_bipush (y := m12_bound) (v := 7) dX12_bound_38 (by decide) ?_
          refine r_iload_n (y := m12_bound) dX12_bound_40 rfl rfl ?_
          refine r_imul (y := m12_bound) dX12_bound_41 ?_
          refine r_iconst (y := m12_bound) (v := 1) dX12_bound_42 (by decide) ?_
          refine r_iadd (y := m12_bound) dX12_bound_43 ?_
          refine r_iload_n (y := m12_bound) dX12_bound_44 rfl rfl ?_
          refine r_iadd (y := m12_bound) dX12_bound_45 ?_
          refine r_iload_n (y := m12_bound) dX12_bound_46 rfl rfl ?_
          refine r_callV (y := m12_bound) (As := [(.int (((7 * a0) + 1) + a1)), (.int a2)]) (b := 668) (ci := 12) dX12_bound_47 rfl k12_told lm_X12_366 rfl ⟨by decide, by decide⟩ (so_668 (St.i hm10)) (by decide) rfl (Nat.le_of_ble_eq_true rfl) (C.mono h ?_)
          rintro _ m19 ⟨x21, rfl, hm20, h⟩
          refine ⟨_, rfl, ?_⟩
          refine r_goto (y := m12_bound) (tgt := 54) dX12_bound_50 (by decide) ?_
          exact r_iret (y := m12_bound) dX12_bound_54 rfl rfl h
      · have h := h.2 hc17
        refine r_iconst (y := m12_bound) (v := 0) dX12_bound_22 (by decide) ?_
        refine r_goto (y := m12_bound) (tgt := 27) dX12_bound_23 (by decide) ?_
        refine p_X12_147 (y := m12_bound) rfl dX12_bound_27 hm10 ?_
        refine r_aload_n (y := m12_bound) dX12_bound_30 rfl rfl ?_
        refine g_X12_147 (y := m12_bound) rfl dX12_bound_31 (St.i hm10) ?_
        refine V.top (b := 0) (by first | rfl | simp [mI_set, mI_setR]) ?_
        refine r_if_ne (y := m12_bound) (tgt := 53) dX12_bound_34 (by decide) (fun hc22 => ?_) (fun hc22 => ?_)
        · have h := h.1 hc22
          refine r_iconst (y := m12_bound) (v := 0) dX12_bound_53 (by decide) ?_
          exact r_iret (y := m12_bound) dX12_bound_54 rfl rfl h
        · have h := h.2 hc22
          refine r_aload_n (y := m12_bound) dX12_bound_37 rfl rfl ?_
          refine r_bipush (y := m12_bound) (v := 7) dX12_bound_38 (by decide) ?_
          refine r_iload_n (y := m12_bound) dX12_bound_40 rfl rfl ?_
          refine r_imul (y := m12_bound) dX12_bound_41 ?_
          refine r_iconst (y := m12_bound) (v := 1) dX12_bound_42 (by decide) ?_
          refine r_iadd (y := m12_bound) dX12_bound_43 ?_
          refine r_iload_n (y := m12_bound) dX12_bound_44 rfl rfl ?_
          refine r_iadd (y := m12_bound) dX12_bound_45 ?_
          refine r_iload_n (y := m12_bound) dX12_bound_46 rfl rfl ?_
          refine r_callV (y := m12_bound) (As := [(.int (((7 * a0) + 1) + a1)), (.int a2)]) (b := 668) (ci := 12) dX12_bound_47 rfl k12_told lm_X12_366 rfl ⟨by decide, by decide⟩ (so_668 (St.i hm10)) (by decide) rfl (Nat.le_of_ble_eq_true rfl) (C.mono h ?_)
          rintro _ m23 ⟨x25, rfl, hm24, h⟩
          refine ⟨_, rfl, ?_⟩
          refine r_goto (y := m12_bound) (tgt := 54) dX12_bound_50 (by decide) ?_
          exact r_iret (y := m12_bound) dX12_bound_54 rfl rfl h
set_option maxHeartbeats 4000000 in
set_option maxRecDepth 100000 in
theorem w12_steps {m : Mm} {K : Option Value ⊕ String → Mm → Prop} (hm : St m) {a0 : Int32}  (h : C m12_isValue [(.ref 668), (.int a0)] m (fun o m1 => ∃ x3 : Int32, o = .inl (some (.int x3)) ∧ St m1 ∧ ((x3 = 0 → ((¬ (1 : Int32) = 0 → K (.inl (some (.int 0))) (mSetI m1 668 12 1)) ∧ ((1 : Int32) = 0 → vp_in a0 10 ∧ K (.inl (some (.int (mI m1 705 (Int32.toNatClampNeg a0))))) (mSetI m1 668 12 1)))) ∧ (¬ x3 = 0 → ((¬ (0 : Int32) = 0 → K (.inl (some (.int 0))) (mSetI m1 668 12 0)) ∧ ((0 : Int32) = 0 → vp_in a0 10 ∧ K (.inl (some (.int (mI m1 705 (Int32.toNatClampNeg a0))))) (mSetI m1 668 12 0))))))) : V m12_steps 0 [some (.ref 668), some (.int a0)] [] m K := by
  refine r_aload_n (y := m12_steps) dX12_steps_0 rfl rfl ?_
  refine r_aload_n (y := m12_steps) dX12_steps_1 rfl rfl ?_
  refine r_iload_n (y := m12_steps) dX12_steps_2 rfl rfl ?_
  refine r_callV (y := m12_steps) (As := [(.int a0)]) (b := 668) (ci := 12) dX12_steps_3 rfl k12_isValue lm_X12_363 rfl ⟨by decide, by decide⟩ (so_668 hm) (by decide) rfl (Nat.le_of_ble_eq_true rfl) (C.mono h ?_)
  rintro _ m1 ⟨x3, rfl, hm2, h⟩
  refine ⟨_, rfl, ?_⟩
  refine r_if_eq (y := m12_steps) (tgt := 13) dX12_steps_6 (by decide) (fun hc4 => ?_) (fun hc4 => ?_)
  · have h := h.1 hc4
    refine r_iconst (y := m12_steps) (v := 1) dX12_steps_13 (by decide) ?_
    refine p_X12_147 (y := m12_steps) rfl dX12_steps_14 hm2 ?_
    refine r_aload_n (y := m12_steps) dX12_steps_17 rfl rfl ?_
    refine g_X12_147 (y := m12_steps) rfl dX12_steps_18 (St.i hm2) ?_
    refine V.top (b := 1) (by first | rfl | simp [mI_set, mI_setR]) ?_
    refine r_if_ne (y := m12_steps) (tgt := 33) dX12_steps_21 (by decide) (fun hc5 => ?_) (fun hc5 => ?_)
    · have h := h.1 hc5
      refine r_iconst (y := m12_steps) (v := 0) dX12_steps_33 (by decide) ?_
      exact r_iret (y := m12_steps) dX12_steps_34 rfl rfl h
    · have h := h.2 hc5
      refine r_aload_n (y := m12_steps) dX12_steps_24 rfl rfl ?_
      refine g_X12_119 (y := m12_steps) rfl dX12_steps_25 (St.i hm2) ?_
      refine r_iload_n (y := m12_steps) dX12_steps_28 rfl rfl ?_
      obtain ⟨hb6, h⟩ := h
      refine r_iald (y := m12_steps) (n := 10) dX12_steps_29 (sa_705 (St.i hm2)) hb6 ?_
      refine V.top (b := (mI m1 705 (Int32.toNatClampNeg a0))) (by first | rfl | simp [mI_set, mI_setR]) ?_
      refine r_goto (y := m12_steps) (tgt := 34) dX12_steps_30 (by decide) ?_
      exact r_iret (y := m12_steps) dX12_steps_34 rfl rfl h
  · have h := h.2 hc4
    refine r_iconst (y := m12_steps) (v := 0) dX12_steps_9 (by decide) ?_
    refine r_goto (y := m12_steps) (tgt := 14) dX12_steps_10 (by decide) ?_
    refine p_X12_147 (y := m12_steps) rfl dX12_steps_14 hm2 ?_
    refine r_aload_n (y := m12_steps) dX12_steps_17 rfl rfl ?_
    refine g_X12_147 (y := m12_steps) rfl dX12_steps_18 (St.i hm2) ?_
    refine V.top (b := 0) (by first | rfl | simp [mI_set, mI_setR]) ?_
    refine r_if_ne (y := m12_steps) (tgt := 33) dX12_steps_21 (by decide) (fun hc7 => ?_) (fun hc7 => ?_)
    · have h := h.1 hc7
      refine r_iconst (y := m12_steps) (v := 0) dX12_steps_33 (by decide) ?_
      exact r_iret (y := m12_steps) dX12_steps_34 rfl rfl h
    · have h := h.2 hc7
      refine r_aload_n (y := m12_steps) dX12_steps_24 rfl rfl ?_
      refine g_X12_119 (y := m12_steps) rfl dX12_steps_25 (St.i hm2) ?_
      refine r_iload_n (y := m12_steps) dX12_steps_28 rfl rfl ?_
      obtain ⟨hb8, h⟩ := h
      refine r_iald (y := m12_steps) (n := 10) dX12_steps_29 (sa_705 (St.i hm2)) hb8 ?_
      refine V.top (b := (mI m1 705 (Int32.toNatClampNeg a0))) (by first | rfl | simp [mI_set, mI_setR]) ?_
      refine r_goto (y := m12_steps) (tgt := 34) dX12_steps_30 (by decide) ?_
      exact r_iret (y := m12_steps) dX12_steps_34 rfl rfl h
set_option maxHeartbeats 4000000 in
set_option maxRecDepth 100000 in
theorem w12_fate {m : Mm} {K : Option Value ⊕ String → Mm → Prop} (hm : St m) {a0 : Int32} {a1 : Int32}  (h : C m12_isValue [(.ref 668), (.int a0)] m (fun o m1 => ∃ x3 : Int32, o = .inl (some (.int x3)) ∧ St m1 ∧ ((x3 = 0 → (((1 : Int32) ≤ 0 → vp_in a0 10 ∧ (((mI m1 706 (Int32.toNatClampNeg a0)) ≤ a1 → K (.inl (some (.int (-1)))) (mSetI m1 668 12 1)) ∧ (¬ (mI m1 706 (Int32.toNatClampNeg a0)) ≤ a1 → vp_in ((40 * a0) + a1) 400 ∧ K (.inl (some (.int (mI m1 707 (Int32.toNatClampNeg ((40 * a0) + a1)))))) (mSetI m1 668 12 1)))) ∧ (¬ (1 : Int32) ≤ 0 → K (.inl (some (.int 0))) (mSetI m1 668 12 1)))) ∧ (¬ x3 = 0 → ((a1 < 0 → (((1 : Int32) ≤ 0 → vp_in a0 10 ∧ (((mI m1 706 (Int32.toNatClampNeg a0)) ≤ a1 → K (.inl (some (.int (-1)))) (mSetI m1 668 12 1)) ∧ (¬ (mI m1 706 (Int32.toNatClampNeg a0)) ≤ a1 → vp_in ((40 * a0) + a1) 400 ∧ K (.inl (some (.int (mI m1 707 (Int32.toNatClampNeg ((40 * a0) + a1)))))) (mSetI m1 668 12 1)))) ∧ (¬ (1 : Int32) ≤ 0 → K (.inl (some (.int 0))) (mSetI m1 668 12 1)))) ∧ (¬ a1 < 0 → (((0 : Int32) ≤ 0 → vp_in a0 10 ∧ (((mI m1 706 (Int32.toNatClampNeg a0)) ≤ a1 → K (.inl (some (.int (-1)))) (mSetI m1 668 12 0)) ∧ (¬ (mI m1 706 (Int32.toNatClampNeg a0)) ≤ a1 → vp_in ((40 * a0) + a1) 400 ∧ K (.inl (some (.int (mI m1 707 (Int32.toNatClampNeg ((40 * a0) + a1)))))) (mSetI m1 668 12 0)))) ∧ (¬ (0 : Int32) ≤ 0 → K (.inl (some (.int 0))) (mSetI m1 668 12 0))))))))) : V m12_fate 0 [some (.ref 668), some (.int a0), some (.int a1)] [] m K := by
  refine r_aload_n (y := m12_fate) dX12_fate_0 rfl rfl ?_
  refine r_aload_n (y := m12_fate) dX12_fate_1 rfl rfl ?_
  refine r_iload_n (y := m12_fate) dX12_fate_2 rfl rfl ?_
  refine r_callV (y := m12_fate) (As := [(.int a0)]) (b := 668) (ci := 12) dX12_fate_3 rfl k12_isValue lm_X12_363 rfl ⟨by decide, by decide⟩ (so_668 hm) (by decide) rfl (Nat.le_of_ble_eq_true rfl) (C.mono h ?_)
  rintro _ m1 ⟨x3, rfl, hm2, h⟩
  refine ⟨_, rfl, ?_⟩
  refine r_if_eq (y := m12_fate) (tgt := 17) dX12_fate_6 (by decide) (fun hc4 => ?_) (fun hc4 => ?_)
  · have h := h.1 hc4
    refine r_iconst (y := m12_fate) (v := 1) dX12_fate_17 (by decide) ?_
    refine p_X12_147 (y := m12_fate) rfl dX12_fate_18 hm2 ?_
    refine r_aload_n (y := m12_fate) dX12_fate_21 rfl rfl ?_
    refine g_X12_147 (y := m12_fate) rfl dX12_fate_22 (St.i hm2) ?_
    refine V.top (b := 1) (by first | rfl | simp [mI_set, mI_setR]) ?_
    refine r_if_le (y := m12_fate) (tgt := 32) dX12_fate_25 (by decide) (fun hc5 => ?_) (fun hc5 => ?_)
    · have h := h.1 hc5
      refine r_iload_n (y := m12_fate) dX12_fate_32 rfl rfl ?_
      refine r_aload_n (y := m12_fate) dX12_fate_33 rfl rfl ?_
      refine g_X12_122 (y := m12_fate) rfl dX12_fate_34 (St.i hm2) ?_
      refine r_iload_n (y := m12_fate) dX12_fate_37 rfl rfl ?_
      obtain ⟨hb6, h⟩ := h
      refine r_iald (y := m12_fate) (n := 10) dX12_fate_38 (sa_706 (St.i hm2)) hb6 ?_
      refine V.top (b := (mI m1 706 (Int32.toNatClampNeg a0))) (by first | rfl | simp [mI_set, mI_setR]) ?_
      refine r_icmp_ge (y := m12_fate) (tgt := 56) dX12_fate_39 (by decide) (fun hc7 => ?_) (fun hc7 => ?_)
      · have h := h.1 hc7
        refine r_iconst (y := m12_fate) (v := (-1)) dX12_fate_56 (by decide) ?_
        exact r_iret (y := m12_fate) dX12_fate_57 rfl rfl h
      · have h := h.2 hc7
        refine r_aload_n (y := m12_fate) dX12_fate_42 rfl rfl ?_
        refine g_X12_125 (y := m12_fate) rfl dX12_fate_43 (St.i hm2) ?_
        refine r_bipush (y := m12_fate) (v := 40) dX12_fate_46 (by decide) ?_
        refine r_iload_n (y := m12_fate) dX12_fate_48 rfl rfl ?_
        refine r_imul (y := m12_fate) dX12_fate_49 ?_
        refine r_iload_n (y := m12_fate) dX12_fate_50 rfl rfl ?_
        refine r_iadd (y := m12_fate) dX12_fate_51 ?_
        obtain ⟨hb8, h⟩ := h
        refine r_iald (y := m12_fate) (n := 400) dX12_fate_52 (sa_707 (St.i hm2)) hb8 ?_
        refine V.top (b := (mI m1 707 (Int32.toNatClampNeg ((40 * a0) + a1)))) (by first | rfl | simp [mI_set, mI_setR]) ?_
        refine r_goto (y := m12_fate) (tgt := 57) dX12_fate_53 (by decide) ?_
        exact r_iret (y := m12_fate) dX12_fate_57 rfl rfl h
    · have h := h.2 hc5
      refine r_iconst (y := m12_fate) (v := 0) dX12_fate_28 (by decide) ?_
      refine r_goto (y := m12_fate) (tgt := 57) dX12_fate_29 (by decide) ?_
      exact r_iret (y := m12_fate) dX12_fate_57 rfl rfl h
  · have h := h.2 hc4
    refine r_iload_n (y := m12_fate) dX12_fate_9 rfl rfl ?_
    refine r_if_lt (y := m12_fate) (tgt := 17) dX12_fate_10 (by decide) (fun hc9 => ?_) (fun hc9 => ?_)
    · have h := h.1 hc9
      refine r_iconst (y := m12_fate) (v := 1) dX12_fate_17 (by decide) ?_
      refine p_X12_147 (y := m12_fate) rfl dX12_fate_18 hm2 ?_
      refine r_aload_n (y := m12_fate) dX12_fate_21 rfl rfl ?_
      refine g_X12_147 (y := m12_fate) rfl dX12_fate_22 (St.i hm2) ?_
      refine V.top (b := 1) (by first | rfl | simp [mI_set, mI_setR]) ?_
      refine r_if_le (y := m12_fate) (tgt := 32) dX12_fate_25 (by decide) (fun hc10 => ?_) (fun hc10 => ?_)
      · have h := h.1 hc10
        refine r_iload_n (y := m12_fate) dX12_fate_32 rfl rfl ?_
        refine r_aload_n (y := m12_fate) dX12_fate_33 rfl rfl ?_
        refine g_X12_122 (y := m12_fate) rfl dX12_fate_34 (St.i hm2) ?_
        refine r_iload_n (y := m12_fate) dX12_fate_37 rfl rfl ?_
        obtain ⟨hb11, h⟩ := h
        refine r_iald (y := m12_fate) (n := 10) dX12_fate_38 (sa_706 (St.i hm2)) hb11 ?_
        refine V.top (b := (mI m1 706 (Int32.toNatClampNeg a0))) (by first | rfl | simp [mI_set, mI_setR]) ?_
        refine r_icmp_ge (y := m12_fate) (tgt := 56) dX12_fate_39 (by decide) (fun hc12 => ?_) (fun hc12 => ?_)
        · have h := h.1 hc12
          refine r_iconst (y := m12_fate) (v := (-1)) dX12_fate_56 (by decide) ?_
          exact r_iret (y := m12_fate) dX12_fate_57 rfl rfl h
        · have h := h.2 hc12
          refine r_aload_n (y := m12_fate) dX12_fate_42 rfl rfl ?_
          refine g_X12_125 (y := m12_fate) rfl dX12_fate_43 (St.i hm2) ?_
          refine r_bipush (y := m12_fate) (v := 40) dX12_fate_46 (by decide) ?_
          refine r_iload_n (y := m12_fate) dX12_fate_48 rfl rfl ?_
          refine r_imul (y := m12_fate) dX12_fate_49 ?_
          refine r_iload_n (y := m12_fate) dX12_fate_50 rfl rfl ?_
          refine r_iadd (y := m12_fate) dX12_fate_51 ?_
          obtain ⟨hb13, h⟩ := h
          refine r_iald (y := m12_fate) (n := 400) dX12_fate_52 (sa_707 (St.i hm2)) hb13 ?_
          refine V.top (b := (mI m1 707 (Int32.toNatClampNeg ((40 * a0) + a1)))) (by first | rfl | simp [mI_set, mI_setR]) ?_
          refine r_goto (y := m12_fate) (tgt := 57) dX12_fate_53 (by decide) ?_
          exact r_iret (y := m12_fate) dX12_fate_57 rfl rfl h
      · have h := h.2 hc10
        refine r_iconst (y := m12_fate) (v := 0) dX12_fate_28 (by decide) ?_
        refine r_goto (y := m12_fate) (tgt := 57) dX12_fate_29 (by decide) ?_
        exact r_iret (y := m12_fate) dX12_fate_57 rfl rfl h
    · have h := h.2 hc9
      refine r_iconst (y := m12_fate) (v := 0) dX12_fate_13 (by decide) ?_
      refine r_goto (y := m12_fate) (tgt := 18) dX12_fate_14 (by decide) ?_
      refine p_X12_147 (y := m12_fate) rfl dX12_fate_18 hm2 ?_
      refine r_aload_n (y := m12_fate) dX12_fate_21 rfl rfl ?_
      refine g_X12_147 (y := m12_fate) rfl dX12_fate_22 (St.i hm2) ?_
      refine V.top (b := 0) (by first | rfl | simp [mI_set, mI_setR]) ?_
      refine r_if_le (y := m12_fate) (tgt := 32) dX12_fate_25 (by decide) (fun hc14 => ?_) (fun hc14 => ?_)
      · have h := h.1 hc14
        refine r_iload_n (y := m12_fate) dX12_fate_32 rfl rfl ?_
        refine r_aload_n (y := m12_fate) dX12_fate_33 rfl rfl ?_
        refine g_X12_122 (y := m12_fate) rfl dX12_fate_34 (St.i hm2) ?_
        refine r_iload_n (y := m12_fate) dX12_fate_37 rfl rfl ?_
        obtain ⟨hb15, h⟩ := h
        refine r_iald (y := m12_fate) (n := 10) dX12_fate_38 (sa_706 (St.i hm2)) hb15 ?_
        refine V.top (b := (mI m1 706 (Int32.toNatClampNeg a0))) (by first | rfl | simp [mI_set, mI_setR]) ?_
        refine r_icmp_ge (y := m12_fate) (tgt := 56) dX12_fate_39 (by decide) (fun hc16 => ?_) (fun hc16 => ?_)
        · have h := h.1 hc16
          refine r_iconst (y := m12_fate) (v := (-1)) dX12_fate_56 (by decide) ?_
          exact r_iret (y := m12_fate) dX12_fate_57 rfl rfl h
        · have h := h.2 hc16
          refine r_aload_n (y := m12_fate) dX12_fate_42 rfl rfl ?_
          refine g_X12_125 (y := m12_fate) rfl dX12_fate_43 (St.i hm2) ?_
          refine r_bipush (y := m12_fate) (v := 40) dX12_fate_46 (by decide) ?_
          refine r_iload_n (y := m12_fate) dX12_fate_48 rfl rfl ?_
          refine r_imul (y := m12_fate) dX12_fate_49 ?_
          refine r_iload_n (y := m12_fate) dX12_fate_50 rfl rfl ?_
          refine r_iadd (y := m12_fate) dX12_fate_51 ?_
          obtain ⟨hb17, h⟩ := h
          refine r_iald (y := m12_fate) (n := 400) dX12_fate_52 (sa_707 (St.i hm2)) hb17 ?_
          refine V.top (b := (mI m1 707 (Int32.toNatClampNeg ((40 * a0) + a1)))) (by first | rfl | simp [mI_set, mI_setR]) ?_
          refine r_goto (y := m12_fate) (tgt := 57) dX12_fate_53 (by decide) ?_
          exact r_iret (y := m12_fate) dX12_fate_57 rfl rfl h
      · have h := h.2 hc14
        refine r_iconst (y := m12_fate) (v := 0) dX12_fate_28 (by decide) ?_
        refine r_goto (y := m12_fate) (tgt := 57) dX12_fate_29 (by decide) ?_
        exact r_iret (y := m12_fate) dX12_fate_57 rfl rfl h
set_option maxHeartbeats 4000000 in
set_option maxRecDepth 100000 in
theorem w12_within {m : Mm} {K : Option Value ⊕ String → Mm → Prop} (hm : St m) {a0 : Int32}  (h : C m12_in [(.int a0), (.int 0), (.int 10)] m (fun o m1 => ∃ x3 : Int32, o = .inl (some (.int x3)) ∧ St m1 ∧ ((¬ x3 = 0 → ((¬ (mI m1 668 11) = 0 → (((0 : Int32) ≤ 0 → V m12_within 49 [some (.ref 668), some (.int a0), some (.int 0), some (.int 0), some (.int 0), some (.int 1)] [] (mSetI m1 668 12 0) K) ∧ (¬ (0 : Int32) ≤ 0 → K (.inl (some (.int 0))) (mSetI m1 668 12 0)))) ∧ ((mI m1 668 11) = 0 → (((2 : Int32) ≤ 0 → V m12_within 49 [some (.ref 668), some (.int a0), some (.int 0), some (.int 0), some (.int 0), some (.int 1)] [] (mSetI m1 668 12 2) K) ∧ (¬ (2 : Int32) ≤ 0 → K (.inl (some (.int 0))) (mSetI m1 668 12 2)))))) ∧ (x3 = 0 → (((1 : Int32) ≤ 0 → V m12_within 49 [some (.ref 668), some (.int a0), some (.int 0), some (.int 0), some (.int 0), some (.int 1)] [] (mSetI m1 668 12 1) K) ∧ (¬ (1 : Int32) ≤ 0 → K (.inl (some (.int 0))) (mSetI m1 668 12 1))))))) : V m12_within 0 [some (.ref 668), some (.int a0), none, none, none, none] [] m K := by
  refine r_aload_n (y := m12_within) dX12_within_0 rfl rfl ?_
  refine r_iload_n (y := m12_within) dX12_within_1 rfl rfl ?_
  refine r_iconst (y := m12_within) (v := 0) dX12_within_2 (by decide) ?_
  refine r_bipush (y := m12_within) (v := 10) dX12_within_3 (by decide) ?_
  refine r_callS (y := m12_within) (As := [(.int a0), (.int 0), (.int 10)]) dX12_within_5 rfl k12_in lm_X12_154 rfl ⟨by decide, by decide⟩ (Nat.le_of_ble_eq_true rfl) (C.mono h ?_)
  rintro _ m1 ⟨x3, rfl, hm2, h⟩
  refine ⟨_, rfl, ?_⟩
  refine r_if_ne (y := m12_within) (tgt := 15) dX12_within_8 (by decide) (fun hc4 => ?_) (fun hc4 => ?_)
  · have h := h.1 hc4
    refine r_aload_n (y := m12_within) dX12_within_15 rfl rfl ?_
    refine g_X12_220 (y := m12_within) rfl dX12_within_16 hm2 ?_
    refine r_if_ne (y := m12_within) (tgt := 26) dX12_within_19 (by decide) (fun hc5 => ?_) (fun hc5 => ?_)
    · have h := h.1 hc5
      refine r_iconst (y := m12_within) (v := 0) dX12_within_26 (by decide) ?_
      refine p_X12_147 (y := m12_within) rfl dX12_within_27 hm2 ?_
      refine r_aload_n (y := m12_within) dX12_within_30 rfl rfl ?_
      refine g_X12_147 (y := m12_within) rfl dX12_within_31 (St.i hm2) ?_
      refine V.top (b := 0) (by first | rfl | simp [mI_set, mI_setR]) ?_
      refine r_if_le (y := m12_within) (tgt := 39) dX12_within_34 (by decide) (fun hc6 => ?_) (fun hc6 => ?_)
      · have h := h.1 hc6
        refine r_iconst (y := m12_within) (v := 0) dX12_within_39 (by decide) ?_
        refine r_istore_n (y := m12_within) (L' := [some (.ref 668), some (.int a0), some (.int 0), none, none, none]) dX12_within_40 rfl (Nat.le_of_ble_eq_true rfl) rfl ?_
        refine r_iconst (y := m12_within) (v := 0) dX12_within_41 (by decide) ?_
        refine r_istore_n (y := m12_within) (L' := [some (.ref 668), some (.int a0), some (.int 0), some (.int 0), none, none]) dX12_within_42 rfl (Nat.le_of_ble_eq_true rfl) rfl ?_
        refine r_iconst (y := m12_within) (v := 0) dX12_within_43 (by decide) ?_
        refine r_istore (y := m12_within) (L' := [some (.ref 668), some (.int a0), some (.int 0), some (.int 0), some (.int 0), none]) dX12_within_44 (Nat.le_of_ble_eq_true rfl) rfl ?_
        refine r_iconst (y := m12_within) (v := 1) dX12_within_46 (by decide) ?_
        refine r_istore (y := m12_within) (L' := [some (.ref 668), some (.int a0), some (.int 0), some (.int 0), some (.int 0), some (.int 1)]) dX12_within_47 (Nat.le_of_ble_eq_true rfl) rfl ?_
        exact h
      · have h := h.2 hc6
        refine r_iconst (y := m12_within) (v := 0) dX12_within_37 (by decide) ?_
        exact r_iret (y := m12_within) dX12_within_38 rfl rfl h
    · have h := h.2 hc5
      refine r_iconst (y := m12_within) (v := 2) dX12_within_22 (by decide) ?_
      refine r_goto (y := m12_within) (tgt := 27) dX12_within_23 (by decide) ?_
      refine p_X12_147 (y := m12_within) rfl dX12_within_27 hm2 ?_
      refine r_aload_n (y := m12_within) dX12_within_30 rfl rfl ?_
      refine g_X12_147 (y := m12_within) rfl dX12_within_31 (St.i hm2) ?_
      refine V.top (b := 2) (by first | rfl | simp [mI_set, mI_setR]) ?_
      refine r_if_le (y := m12_within) (tgt := 39) dX12_within_34 (by decide) (fun hc7 => ?_) (fun hc7 => ?_)
      · have h := h.1 hc7
        refine r_iconst (y := m12_within) (v := 0) dX12_within_39 (by decide) ?_
        refine r_istore_n (y := m12_within) (L' := [some (.ref 668), some (.int a0), some (.int 0), none, none, none]) dX12_within_40 rfl (Nat.le_of_ble_eq_true rfl) rfl ?_
        refine r_iconst (y := m12_within) (v := 0) dX12_within_41 (by decide) ?_
        refine r_istore_n (y := m12_within) (L' := [some (.ref 668), some (.int a0), some (.int 0), some (.int 0), none, none]) dX12_within_42 rfl (Nat.le_of_ble_eq_true rfl) rfl ?_
        refine r_iconst (y := m12_within) (v := 0) dX12_within_43 (by decide) ?_
        refine r_istore (y := m12_within) (L' := [some (.ref 668), some (.int a0), some (.int 0), some (.int 0), some (.int 0), none]) dX12_within_44 (Nat.le_of_ble_eq_true rfl) rfl ?_
        refine r_iconst (y := m12_within) (v := 1) dX12_within_46 (by decide) ?_
        refine r_istore (y := m12_within) (L' := [some (.ref 668), some (.int a0), some (.int 0), some (.int 0), some (.int 0), some (.int 1)]) dX12_within_47 (Nat.le_of_ble_eq_true rfl) rfl ?_
        exact h
      · have h := h.2 hc7
        refine r_iconst (y := m12_within) (v := 0) dX12_within_37 (by decide) ?_
        exact r_iret (y := m12_within) dX12_within_38 rfl rfl h
  · have h := h.2 hc4
    refine r_iconst (y := m12_within) (v := 1) dX12_within_11 (by decide) ?_
    refine r_goto (y := m12_within) (tgt := 27) dX12_within_12 (by decide) ?_
    refine p_X12_147 (y := m12_within) rfl dX12_within_27 hm2 ?_
    refine r_aload_n (y := m12_within) dX12_within_30 rfl rfl ?_
    refine g_X12_147 (y := m12_within) rfl dX12_within_31 (St.i hm2) ?_
    refine V.top (b := 1) (by first | rfl | simp [mI_set, mI_setR]) ?_
    refine r_if_le (y := m12_within) (tgt := 39) dX12_within_34 (by decide) (fun hc8 => ?_) (fun hc8 => ?_)
    · have h := h.1 hc8
      refine r_iconst (y := m12_within) (v := 0) dX12_within_39 (by decide) ?_
      refine r_istore_n (y := m12_within) (L' := [some (.ref 668), some (.int a0), some (.int 0), none, none, none]) dX12_within_40 rfl (Nat.le_of_ble_eq_true rfl) rfl ?_
      refine r_iconst (y := m12_within) (v := 0) dX12_within_41 (by decide) ?_
      refine r_istore_n (y := m12_within) (L' := [some (.ref 668), some (.int a0), some (.int 0), some (.int 0), none, none]) dX12_within_42 rfl (Nat.le_of_ble_eq_true rfl) rfl ?_
      refine r_iconst (y := m12_within) (v := 0) dX12_within_43 (by decide) ?_
      refine r_istore (y := m12_within) (L' := [some (.ref 668), some (.int a0), some (.int 0), some (.int 0), some (.int 0), none]) dX12_within_44 (Nat.le_of_ble_eq_true rfl) rfl ?_
      refine r_iconst (y := m12_within) (v := 1) dX12_within_46 (by decide) ?_
      refine r_istore (y := m12_within) (L' := [some (.ref 668), some (.int a0), some (.int 0), some (.int 0), some (.int 0), some (.int 1)]) dX12_within_47 (Nat.le_of_ble_eq_true rfl) rfl ?_
      exact h
    · have h := h.2 hc8
      refine r_iconst (y := m12_within) (v := 0) dX12_within_37 (by decide) ?_
      exact r_iret (y := m12_within) dX12_within_38 rfl rfl h
set_option maxHeartbeats 4000000 in
set_option maxRecDepth 100000 in
theorem w12_within_49 {m : Mm} {K : Option Value ⊕ String → Mm → Prop} (hm : St m) {v1 : Int32} {v2 : Int32} {v3 : Int32} {v4 : Int32} {v5 : Int32}  (h : ((v5 = 0 → K (.inl (some (.int v3))) m) ∧ (¬ v5 = 0 → vp_in 0 110 ∧ C m12_run [(.ref 668)] (mSetI m 693 0 v4) (fun o m3 => o = .inl none ∧ St m3 ∧ ((¬ (v2 + 1) = 600 → ((¬ (mI m3 668 29) = 1 → ((¬ (mI m3 668 29) = 5 → V m12_within 133 [some (.ref 668), some (.int v1), some (.int (v2 + 1)), some (.int (v3 + 0)), some (.int v4), some (.int v5)] [] m3 K) ∧ ((mI m3 668 29) = 5 → ((v1 ≤ v4 → V m12_within 133 [some (.ref 668), some (.int v1), some (.int (v2 + 1)), some (.int (v3 + 0)), some (.int v4), some (.int v5)] [] m3 K) ∧ (¬ v1 ≤ v4 → vp_in v4 41 ∧ vp_in v4 4510 ∧ V m12_within 49 [some (.ref 668), some (.int v1), some (.int (v2 + 1)), some (.int (v3 + 0)), some (.int (v4 + 1)), some (.int v5)] [] (mSetI (mSetI m3 713 (Int32.toNatClampNeg v4) (mI m3 668 39)) 695 (Int32.toNatClampNeg v4) 0) K))))) ∧ ((mI m3 668 29) = 1 → ((¬ (mI m3 668 29) = 5 → V m12_within 133 [some (.ref 668), some (.int v1), some (.int (v2 + 1)), some (.int (v3 + 1)), some (.int v4), some (.int v5)] [] m3 K) ∧ ((mI m3 668 29) = 5 → ((v1 ≤ v4 → V m12_within 133 [some (.ref 668), some (.int v1), some (.int (v2 + 1)), some (.int (v3 + 1)), some (.int v4), some (.int v5)] [] m3 K) ∧ (¬ v1 ≤ v4 → vp_in v4 41 ∧ vp_in v4 4510 ∧ V m12_within 49 [some (.ref 668), some (.int v1), some (.int (v2 + 1)), some (.int (v3 + 1)), some (.int (v4 + 1)), some (.int v5)] [] (mSetI (mSetI m3 713 (Int32.toNatClampNeg v4) (mI m3 668 39)) 695 (Int32.toNatClampNeg v4) 0) K))))))) ∧ ((v2 + 1) = 600 → K (.inl (some (.int (-1)))) m3)))))) : V m12_within 49 [some (.ref 668), some (.int v1), some (.int v2), some (.int v3), some (.int v4), some (.int v5)] [] m K := by
  refine r_iload (y := m12_within) dX12_within_49 rfl ?_
  refine r_if_eq (y := m12_within) (tgt := 200) dX12_within_51 (by decide) (fun hc1 => ?_) (fun hc1 => ?_)
  · have h := h.1 hc1
    refine r_iload_n (y := m12_within) dX12_within_200 rfl rfl ?_
    exact r_iret (y := m12_within) dX12_within_201 rfl rfl h
  · have h := h.2 hc1
    refine r_aload_n (y := m12_within) dX12_within_54 rfl rfl ?_
    refine g_X12_83 (y := m12_within) rfl dX12_within_55 hm ?_
    refine r_iconst (y := m12_within) (v := 0) dX12_within_58 (by decide) ?_
    refine r_iload (y := m12_within) dX12_within_59 rfl ?_
    obtain ⟨hb2, h⟩ := h
    refine r_iast (y := m12_within) (n := 110) dX12_within_61 (sa_693 hm) hb2 ?_
    refine r_aload_n (y := m12_within) dX12_within_62 rfl rfl ?_
    refine r_callV (y := m12_within) (As := []) (b := 668) (ci := 12) dX12_within_63 rfl k12_run lm_X12_357 rfl ⟨by decide, by decide⟩ (so_668 (St.i hm)) (by decide) rfl (Nat.le_of_ble_eq_true rfl) (C.mono h ?_)
    rintro _ m3 ⟨rfl, hm4, h⟩
    refine ⟨none, rfl, ?_⟩
    refine r_iinc (y := m12_within) (v := (v2 + 1)) (L' := [some (.ref 668), some (.int v1), some (.int (v2 + 1)), some (.int v3), some (.int v4), some (.int v5)]) dX12_within_66 rfl (by rfl) rfl ?_
    refine r_iload_n (y := m12_within) dX12_within_69 rfl rfl ?_
    refine r_sipush (y := m12_within) (v := 600) dX12_within_70 (by decide) ?_
    refine r_icmp_ne (y := m12_within) (tgt := 78) dX12_within_73 (by decide) (fun hc5 => ?_) (fun hc5 => ?_)
    · have h := h.1 hc5
      refine r_iload_n (y := m12_within) dX12_within_78 rfl rfl ?_
      refine r_aload_n (y := m12_within) dX12_within_79 rfl rfl ?_
      refine g_X12_245 (y := m12_within) rfl dX12_within_80 hm4 ?_
      refine r_iconst (y := m12_within) (v := 1) dX12_within_83 (by decide) ?_
      refine r_icmp_ne (y := m12_within) (tgt := 91) dX12_within_84 (by decide) (fun hc6 => ?_) (fun hc6 => ?_)
      · have h := h.1 hc6
        refine r_iconst (y := m12_within) (v := 0) dX12_within_91 (by decide) ?_
        refine r_iadd (y := m12_within) dX12_within_92 ?_
        refine r_istore_n (y := m12_within) (L' := [some (.ref 668), some (.int v1), some (.int (v2 + 1)), some (.int (v3 + 0)), some (.int v4), some (.int v5)]) dX12_within_93 rfl (Nat.le_of_ble_eq_true rfl) rfl ?_
        refine r_aload_n (y := m12_within) dX12_within_94 rfl rfl ?_
        refine g_X12_245 (y := m12_within) rfl dX12_within_95 hm4 ?_
        refine r_iconst (y := m12_within) (v := 5) dX12_within_98 (by decide) ?_
        refine r_icmp_ne (y := m12_within) (tgt := 133) dX12_within_99 (by decide) (fun hc7 => ?_) (fun hc7 => ?_)
        · have h := h.1 hc7
          exact h
        · have h := h.2 hc7
          refine r_iload (y := m12_within) dX12_within_102 rfl ?_
          refine r_iload_n (y := m12_within) dX12_within_104 rfl rfl ?_
          refine r_icmp_ge (y := m12_within) (tgt := 133) dX12_within_105 (by decide) (fun hc8 => ?_) (fun hc8 => ?_)
          · have h := h.1 hc8
            exact h
          · have h := h.2 hc8
            refine r_aload_n (y := m12_within) dX12_within_108 rfl rfl ?_
            refine g_X12_144 (y := m12_within) rfl dX12_within_109 hm4 ?_
            refine r_iload (y := m12_within) dX12_within_112 rfl ?_
            refine r_aload_n (y := m12_within) dX12_within_114 rfl rfl ?_
            refine g_X12_248 (y := m12_within) rfl dX12_within_115 hm4 ?_
            obtain ⟨hb9, h⟩ := h
            refine r_iast (y := m12_within) (n := 41) dX12_within_118 (sa_713 hm4) hb9 ?_
            refine r_aload_n (y := m12_within) dX12_within_119 rfl rfl ?_
            refine g_X12_89 (y := m12_within) rfl dX12_within_120 (St.i hm4) ?_
            refine r_iload (y := m12_within) dX12_within_123 rfl ?_
            refine r_iconst (y := m12_within) (v := 0) dX12_within_125 (by decide) ?_
            obtain ⟨hb10, h⟩ := h
            refine r_iast (y := m12_within) (n := 4510) dX12_within_126 (sa_695 (St.i hm4)) hb10 ?_
            refine r_iinc (y := m12_within) (v := (v4 + 1)) (L' := [some (.ref 668), some (.int v1), some (.int (v2 + 1)), some (.int (v3 + 0)), some (.int (v4 + 1)), some (.int v5)]) dX12_within_127 rfl (by rfl) rfl ?_
            refine r_goto (y := m12_within) (tgt := 49) dX12_within_130 (by decide) ?_
            exact h
      · have h := h.2 hc6
        refine r_iconst (y := m12_within) (v := 1) dX12_within_87 (by decide) ?_
        refine r_goto (y := m12_within) (tgt := 92) dX12_within_88 (by decide) ?_
        refine r_iadd (y := m12_within) dX12_within_92 ?_
        refine r_istore_n (y := m12_within) (L' := [some (.ref 668), some (.int v1), some (.int (v2 + 1)), some (.int (v3 + 1)), some (.int v4), some (.int v5)]) dX12_within_93 rfl (Nat.le_of_ble_eq_true rfl) rfl ?_
        refine r_aload_n (y := m12_within) dX12_within_94 rfl rfl ?_
        refine g_X12_245 (y := m12_within) rfl dX12_within_95 hm4 ?_
        refine r_iconst (y := m12_within) (v := 5) dX12_within_98 (by decide) ?_
        refine r_icmp_ne (y := m12_within) (tgt := 133) dX12_within_99 (by decide) (fun hc11 => ?_) (fun hc11 => ?_)
        · have h := h.1 hc11
          exact h
        · have h := h.2 hc11
          refine r_iload (y := m12_within) dX12_within_102 rfl ?_
          refine r_iload_n (y := m12_within) dX12_within_104 rfl rfl ?_
          refine r_icmp_ge (y := m12_within) (tgt := 133) dX12_within_105 (by decide) (fun hc12 => ?_) (fun hc12 => ?_)
          · have h := h.1 hc12
            exact h
          · have h := h.2 hc12
            refine r_aload_n (y := m12_within) dX12_within_108 rfl rfl ?_
            refine g_X12_144 (y := m12_within) rfl dX12_within_109 hm4 ?_
            refine r_iload (y := m12_within) dX12_within_112 rfl ?_
            refine r_aload_n (y := m12_within) dX12_within_114 rfl rfl ?_
            refine g_X12_248 (y := m12_within) rfl dX12_within_115 hm4 ?_
            obtain ⟨hb13, h⟩ := h
            refine r_iast (y := m12_within) (n := 41) dX12_within_118 (sa_713 hm4) hb13 ?_
            refine r_aload_n (y := m12_within) dX12_within_119 rfl rfl ?_
            refine g_X12_89 (y := m12_within) rfl dX12_within_120 (St.i hm4) ?_
            refine r_iload (y := m12_within) dX12_within_123 rfl ?_
            refine r_iconst (y := m12_within) (v := 0) dX12_within_125 (by decide) ?_
            obtain ⟨hb14, h⟩ := h
            refine r_iast (y := m12_within) (n := 4510) dX12_within_126 (sa_695 (St.i hm4)) hb14 ?_
            refine r_iinc (y := m12_within) (v := (v4 + 1)) (L' := [some (.ref 668), some (.int v1), some (.int (v2 + 1)), some (.int (v3 + 1)), some (.int (v4 + 1)), some (.int v5)]) dX12_within_127 rfl (by rfl) rfl ?_
            refine r_goto (y := m12_within) (tgt := 49) dX12_within_130 (by decide) ?_
            exact h
    · have h := h.2 hc5
      refine r_iconst (y := m12_within) (v := (-1)) dX12_within_76 (by decide) ?_
      exact r_iret (y := m12_within) dX12_within_77 rfl rfl h
set_option maxHeartbeats 4000000 in
set_option maxRecDepth 100000 in
theorem w12_within_133 {m : Mm} {K : Option Value ⊕ String → Mm → Prop} (hm : St m) {v1 : Int32} {v2 : Int32} {v3 : Int32} {v4 : Int32} {v5 : Int32}  (h : ((v4 ≤ 0 → V m12_within 167 [some (.ref 668), some (.int v1), some (.int v2), some (.int v3), some (.int v4), some (.int v5)] [] m K) ∧ (¬ v4 ≤ 0 → vp_in (v4 - 1) 4510 ∧ vp_in (v4 - 1) 41 ∧ ((¬ ((mI m 695 (Int32.toNatClampNeg (v4 - 1))) + 1) = (mI m 713 (Int32.toNatClampNeg (v4 - 1))) → V m12_within 167 [some (.ref 668), some (.int v1), some (.int v2), some (.int v3), some (.int v4), some (.int v5)] [] m K) ∧ (((mI m 695 (Int32.toNatClampNeg (v4 - 1))) + 1) = (mI m 713 (Int32.toNatClampNeg (v4 - 1))) → V m12_within 133 [some (.ref 668), some (.int v1), some (.int v2), some (.int v3), some (.int (v4 + (-1))), some (.int v5)] [] m K))))) : V m12_within 133 [some (.ref 668), some (.int v1), some (.int v2), some (.int v3), some (.int v4), some (.int v5)] [] m K := by
  refine r_iload (y := m12_within) dX12_within_133 rfl ?_
  refine r_if_le (y := m12_within) (tgt := 167) dX12_within_135 (by decide) (fun hc1 => ?_) (fun hc1 => ?_)
  · have h := h.1 hc1
    exact h
  · have h := h.2 hc1
    refine r_aload_n (y := m12_within) dX12_within_138 rfl rfl ?_
    refine g_X12_89 (y := m12_within) rfl dX12_within_139 hm ?_
    refine r_iload (y := m12_within) dX12_within_142 rfl ?_
    refine r_iconst (y := m12_within) (v := 1) dX12_within_144 (by decide) ?_
    refine r_isub (y := m12_within) dX12_within_145 ?_
    obtain ⟨hb2, h⟩ := h
    refine r_iald (y := m12_within) (n := 4510) dX12_within_146 (sa_695 hm) hb2 ?_
    refine r_iconst (y := m12_within) (v := 1) dX12_within_147 (by decide) ?_
    refine r_iadd (y := m12_within) dX12_within_148 ?_
    refine r_aload_n (y := m12_within) dX12_within_149 rfl rfl ?_
    refine g_X12_144 (y := m12_within) rfl dX12_within_150 hm ?_
    refine r_iload (y := m12_within) dX12_within_153 rfl ?_
    refine r_iconst (y := m12_within) (v := 1) dX12_within_155 (by decide) ?_
    refine r_isub (y := m12_within) dX12_within_156 ?_
    obtain ⟨hb3, h⟩ := h
    refine r_iald (y := m12_within) (n := 41) dX12_within_157 (sa_713 hm) hb3 ?_
    refine r_icmp_ne (y := m12_within) (tgt := 167) dX12_within_158 (by decide) (fun hc4 => ?_) (fun hc4 => ?_)
    · have h := h.1 hc4
      exact h
    · have h := h.2 hc4
      refine r_iinc (y := m12_within) (v := (v4 + (-1))) (L' := [some (.ref 668), some (.int v1), some (.int v2), some (.int v3), some (.int (v4 + (-1))), some (.int v5)]) dX12_within_161 rfl (by rfl) rfl ?_
      refine r_goto (y := m12_within) (tgt := 133) dX12_within_164 (by decide) ?_
      exact h
set_option maxHeartbeats 4000000 in
set_option maxRecDepth 100000 in
theorem w12_within_167 {m : Mm} {K : Option Value ⊕ String → Mm → Prop} (hm : St m) {v1 : Int32} {v2 : Int32} {v3 : Int32} {v4 : Int32} {v5 : Int32}  (h : ((v4 ≤ 0 → (((0 : Int32) = 0 → V m12_within 49 [some (.ref 668), some (.int v1), some (.int v2), some (.int v3), some (.int v4), some (.int 0)] [] m K) ∧ (¬ (0 : Int32) = 0 → vp_in (v4 - 1) 4510 ∧ vp_in (v4 - 1) 4510 ∧ V m12_within 49 [some (.ref 668), some (.int v1), some (.int v2), some (.int v3), some (.int v4), some (.int 0)] [] (mSetI m 695 (Int32.toNatClampNeg (v4 - 1)) ((mI m 695 (Int32.toNatClampNeg (v4 - 1))) + 1)) K))) ∧ (¬ v4 ≤ 0 → (((1 : Int32) = 0 → V m12_within 49 [some (.ref 668), some (.int v1), some (.int v2), some (.int v3), some (.int v4), some (.int 1)] [] m K) ∧ (¬ (1 : Int32) = 0 → vp_in (v4 - 1) 4510 ∧ vp_in (v4 - 1) 4510 ∧ V m12_within 49 [some (.ref 668), some (.int v1), some (.int v2), some (.int v3), some (.int v4), some (.int 1)] [] (mSetI m 695 (Int32.toNatClampNeg (v4 - 1)) ((mI m 695 (Int32.toNatClampNeg (v4 - 1))) + 1)) K))))) : V m12_within 167 [some (.ref 668), some (.int v1), some (.int v2), some (.int v3), some (.int v4), some (.int v5)] [] m K := by
  refine r_iload (y := m12_within) dX12_within_167 rfl ?_
  refine r_if_le (y := m12_within) (tgt := 176) dX12_within_169 (by decide) (fun hc1 => ?_) (fun hc1 => ?_)
  · have h := h.1 hc1
    refine r_iconst (y := m12_within) (v := 0) dX12_within_176 (by decide) ?_
    refine r_istore (y := m12_within) (L' := [some (.ref 668), some (.int v1), some (.int v2), some (.int v3), some (.int v4), some (.int 0)]) dX12_within_177 (Nat.le_of_ble_eq_true rfl) rfl ?_
    refine r_iload (y := m12_within) dX12_within_179 rfl ?_
    refine r_if_eq (y := m12_within) (tgt := 49) dX12_within_181 (by decide) (fun hc2 => ?_) (fun hc2 => ?_)
    · have h := h.1 hc2
      exact h
    · have h := h.2 hc2
      refine r_aload_n (y := m12_within) dX12_within_184 rfl rfl ?_
      refine g_X12_89 (y := m12_within) rfl dX12_within_185 hm ?_
      refine r_iload (y := m12_within) dX12_within_188 rfl ?_
      refine r_iconst (y := m12_within) (v := 1) dX12_within_190 (by decide) ?_
      refine r_isub (y := m12_within) dX12_within_191 ?_
      refine r_dup2 (y := m12_within) dX12_within_192 ?_
      obtain ⟨hb3, h⟩ := h
      refine r_iald (y := m12_within) (n := 4510) dX12_within_193 (sa_695 hm) hb3 ?_
      refine r_iconst (y := m12_within) (v := 1) dX12_within_194 (by decide) ?_
      refine r_iadd (y := m12_within) dX12_within_195 ?_
      obtain ⟨hb4, h⟩ := h
      refine r_iast (y := m12_within) (n := 4510) dX12_within_196 (sa_695 hm) hb4 ?_
      refine r_goto (y := m12_within) (tgt := 49) dX12_within_197 (by decide) ?_
      exact h
  · have h := h.2 hc1
    refine r_iconst (y := m12_within) (v := 1) dX12_within_172 (by decide) ?_
    refine r_goto (y := m12_within) (tgt := 177) dX12_within_173 (by decide) ?_
    refine r_istore (y := m12_within) (L' := [some (.ref 668), some (.int v1), some (.int v2), some (.int v3), some (.int v4), some (.int 1)]) dX12_within_177 (Nat.le_of_ble_eq_true rfl) rfl ?_
    refine r_iload (y := m12_within) dX12_within_179 rfl ?_
    refine r_if_eq (y := m12_within) (tgt := 49) dX12_within_181 (by decide) (fun hc5 => ?_) (fun hc5 => ?_)
    · have h := h.1 hc5
      exact h
    · have h := h.2 hc5
      refine r_aload_n (y := m12_within) dX12_within_184 rfl rfl ?_
      refine g_X12_89 (y := m12_within) rfl dX12_within_185 hm ?_
      refine r_iload (y := m12_within) dX12_within_188 rfl ?_
      refine r_iconst (y := m12_within) (v := 1) dX12_within_190 (by decide) ?_
      refine r_isub (y := m12_within) dX12_within_191 ?_
      refine r_dup2 (y := m12_within) dX12_within_192 ?_
      obtain ⟨hb6, h⟩ := h
      refine r_iald (y := m12_within) (n := 4510) dX12_within_193 (sa_695 hm) hb6 ?_
      refine r_iconst (y := m12_within) (v := 1) dX12_within_194 (by decide) ?_
      refine r_iadd (y := m12_within) dX12_within_195 ?_
      obtain ⟨hb7, h⟩ := h
      refine r_iast (y := m12_within) (n := 4510) dX12_within_196 (sa_695 hm) hb7 ?_
      refine r_goto (y := m12_within) (tgt := 49) dX12_within_197 (by decide) ?_
      exact h
