/-! written by gen/drive.py -/
set_option maxHeartbeats 4000000 in
set_option maxRecDepth 100000 in
theorem w12_endSame_301 {m : Mm} {K : Option Value ⊕ String → Mm → Prop} (hm : St m) {v1 : Int32} {v2 : Int32} {v3 : Int32} {v4 : Int32} {v5 : Int32}  (h : ((v5 = 0 → V m12_endSame 312 [some (.ref 668), some (.int v1), some (.int v2), some (.int v3), some (.int v4), some (.int v5), none, none] [] m K) ∧ (¬ v5 = 0 → C m12_becomeData [(.ref 668), (.int v1), (.int 1)] m (fun o m2 => o = .inl none ∧ St m2 ∧ V m12_endSame 312 [some (.ref 668), some (.int v1), some (.int v2), some (.int v3), some (.int v4), some (.int v5), none, none] [] m2 K)))) : V m12_endSame 301 [some (.ref 668), some (.int v1), some (.int v2), some (.int v3), some (.int v4), some (.int v5), none, none] [] m K := by
  refine r_iload (y := m12_endSame) dX12_endSame_301 rfl ?_
  refine r_if_eq (y := m12_endSame) (tgt := 312) dX12_endSame_303 (by decide) (fun hc1 => ?_) (fun hc1 => ?_)
  · have h := h.1 hc1
    exact h
  · have h := h.2 hc1
    refine r_aload_n (y := m12_endSame) dX12_endSame_306 rfl rfl ?_
    refine r_iload_n (y := m12_endSame) dX12_endSame_307 rfl rfl ?_
    refine r_iconst (y := m12_endSame) (v := 1) dX12_endSame_308 (by decide) ?_
    refine r_callV (y := m12_endSame) (As := [(.int v1), (.int 1)]) (b := 668) (ci := 12) dX12_endSame_309 rfl k12_becomeData lm_X12_267 rfl ⟨by decide, by decide⟩ (so_668 hm) (by decide) rfl (Nat.le_of_ble_eq_true rfl) (C.mono h ?_)
    rintro _ m2 ⟨rfl, hm3, h⟩
    refine ⟨none, rfl, ?_⟩
    exact h
set_option maxHeartbeats 4000000 in
set_option maxRecDepth 100000 in
theorem w12_endSame_298 {m : Mm} {K : Option Value ⊕ String → Mm → Prop} (hm : St m) {v1 : Int32} {v2 : Int32} {v3 : Int32} {v4 : Int32} {v5 : Int32} {v6 : Int32} {v7 : Int32}  (h : V m12_endSame 42 [some (.ref 668), some (.int v1), some (.int v2), some (.int v3), some (.int v4), some (.int v5), some (.int v6), some (.int v7)] [] m K) : V m12_endSame 298 [some (.ref 668), some (.int v1), some (.int v2), some (.int v3), some (.int v4), some (.int v5), some (.int v6), some (.int v7)] [] m K := by
  refine r_goto (y := m12_endSame) (tgt := 42) dX12_endSame_298 (by decide) ?_
  exact h
set_option maxHeartbeats 4000000 in
set_option maxRecDepth 100000 in
theorem w12_endSame_262 {m : Mm} {K : Option Value ⊕ String → Mm → Prop} (hm : St m) {v1 : Int32} {v2 : Int32} {v3 : Int32} {v4 : Int32} {v5 : Int32} {v6 : Int32} {v7 : Int32}  (h : ((v5 = 0 → V m12_endSame 295 [some (.ref 668), some (.int v1), some (.int v2), some (.int v3), some (.int v4), some (.int v5), some (.int v6), some (.int v7)] [] m K) ∧ (¬ v5 = 0 → ((¬ (mI m 668 29) = 0 → V m12_endSame 295 [some (.ref 668), some (.int v1), some (.int v2), some (.int v3), some (.int v4), some (.int v5), some (.int v6), some (.int v7)] [] m K) ∧ ((mI m 668 29) = 0 → ((¬ (mI m 668 31) = v3 → V m12_endSame 295 [some (.ref 668), some (.int v1), some (.int v2), some (.int v3), some (.int v4), some (.int v5), some (.int v6), some (.int v7)] [] m K) ∧ ((mI m 668 31) = v3 → ((¬ (mI m 668 24) = v4 → V m12_endSame 295 [some (.ref 668), some (.int v1), some (.int v2), some (.int v3), some (.int v4), some (.int v5), some (.int v6), some (.int v7)] [] m K) ∧ ((mI m 668 24) = v4 → V m12_endSame 298 [some (.ref 668), some (.int v1), some (.int v2), some (.int v3), some (.int v4), some (.int 1), some (.int v6), some (.int v7)] [] m K))))))))) : V m12_endSame 262 [some (.ref 668), some (.int v1), some (.int v2), some (.int v3), some (.int v4), some (.int v5), some (.int v6), some (.int v7)] [] m K := by
  refine r_iload (y := m12_endSame) dX12_endSame_262 rfl ?_
  refine r_if_eq (y := m12_endSame) (tgt := 295) dX12_endSame_264 (by decide) (fun hc1 => ?_) (fun hc1 => ?_)
  · have h := h.1 hc1
    exact h
  · have h := h.2 hc1
    refine r_aload_n (y := m12_endSame) dX12_endSame_267 rfl rfl ?_
    refine g_X12_245 (y := m12_endSame) rfl dX12_endSame_268 hm ?_
    refine r_if_ne (y := m12_endSame) (tgt := 295) dX12_endSame_271 (by decide) (fun hc2 => ?_) (fun hc2 => ?_)
    · have h := h.1 hc2
      exact h
    · have h := h.2 hc2
      refine r_aload_n (y := m12_endSame) dX12_endSame_274 rfl rfl ?_
      refine g_X12_251 (y := m12_endSame) rfl dX12_endSame_275 hm ?_
      refine r_iload_n (y := m12_endSame) dX12_endSame_278 rfl rfl ?_
      refine r_icmp_ne (y := m12_endSame) (tgt := 295) dX12_endSame_279 (by decide) (fun hc3 => ?_) (fun hc3 => ?_)
      · have h := h.1 hc3
        exact h
      · have h := h.2 hc3
        refine r_aload_n (y := m12_endSame) dX12_endSame_282 rfl rfl ?_
        refine g_X12_239 (y := m12_endSame) rfl dX12_endSame_283 hm ?_
        refine r_iload (y := m12_endSame) dX12_endSame_286 rfl ?_
        refine r_icmp_ne (y := m12_endSame) (tgt := 295) dX12_endSame_288 (by decide) (fun hc4 => ?_) (fun hc4 => ?_)
        · have h := h.1 hc4
          exact h
        · have h := h.2 hc4
          refine r_iconst (y := m12_endSame) (v := 1) dX12_endSame_291 (by decide) ?_
          refine r_goto (y := m12_endSame) (tgt := 296) dX12_endSame_292 (by decide) ?_
          refine r_istore (y := m12_endSame) (L' := [some (.ref 668), some (.int v1), some (.int v2), some (.int v3), some (.int v4), some (.int 1), some (.int v6), some (.int v7)]) dX12_endSame_296 (Nat.le_of_ble_eq_true rfl) rfl ?_
          exact h
set_option maxHeartbeats 4000000 in
set_option maxRecDepth 100000 in
theorem w12_endSame_312 {m : Mm} {K : Option Value ⊕ String → Mm → Prop} (hm : St m) {v1 : Int32} {v2 : Int32} {v3 : Int32} {v4 : Int32} {v5 : Int32}  (h : K (.inl none) m) : V m12_endSame 312 [some (.ref 668), some (.int v1), some (.int v2), some (.int v3), some (.int v4), some (.int v5), none, none] [] m K := by
  exact r_ret (y := m12_endSame) dX12_endSame_312 rfl h
set_option maxHeartbeats 4000000 in
set_option maxRecDepth 100000 in
theorem w12_endSame_295 {m : Mm} {K : Option Value ⊕ String → Mm → Prop} (hm : St m) {v1 : Int32} {v2 : Int32} {v3 : Int32} {v4 : Int32} {v5 : Int32} {v6 : Int32} {v7 : Int32}  (h : V m12_endSame 298 [some (.ref 668), some (.int v1), some (.int v2), some (.int v3), some (.int v4), some (.int 0), some (.int v6), some (.int v7)] [] m K) : V m12_endSame 295 [some (.ref 668), some (.int v1), some (.int v2), some (.int v3), some (.int v4), some (.int v5), some (.int v6), some (.int v7)] [] m K := by
  refine r_iconst (y := m12_endSame) (v := 0) dX12_endSame_295 (by decide) ?_
  refine r_istore (y := m12_endSame) (L' := [some (.ref 668), some (.int v1), some (.int v2), some (.int v3), some (.int v4), some (.int 0), some (.int v6), some (.int v7)]) dX12_endSame_296 (Nat.le_of_ble_eq_true rfl) rfl ?_
  exact h
set_option maxHeartbeats 4000000 in
set_option maxRecDepth 100000 in
theorem w12_endUnlike {m : Mm} {K : Option Value ⊕ String → Mm → Prop} (hm : St m) {a0 : Int32}  (h : vp_in a0 6000 ∧ vp_in a0 6000 ∧ C m12_pair [(.ref 668), (.int (mI m 679 (Int32.toNatClampNeg a0))), (.int (mI m 680 (Int32.toNatClampNeg a0)))] (mSetI m 668 42 0) (fun o m3 => o = .inl none ∧ St m3 ∧ V m12_endUnlike 23 [some (.ref 668), some (.int a0), some (.int 1), none, none] [] m3 K)) : V m12_endUnlike 0 [some (.ref 668), some (.int a0), none, none, none] [] m K := by
  refine r_iconst (y := m12_endUnlike) (v := 1) dX12_endUnlike_0 (by decide) ?_
  refine r_istore_n (y := m12_endUnlike) (L' := [some (.ref 668), some (.int a0), some (.int 1), none, none]) dX12_endUnlike_1 rfl (Nat.le_of_ble_eq_true rfl) rfl ?_
  refine r_aload_n (y := m12_endUnlike) dX12_endUnlike_2 rfl rfl ?_
  refine r_iconst (y := m12_endUnlike) (v := 0) dX12_endUnlike_3 (by decide) ?_
  refine p_X12_296 (y := m12_endUnlike) rfl dX12_endUnlike_4 hm ?_
  refine r_aload_n (y := m12_endUnlike) dX12_endUnlike_7 rfl rfl ?_
  refine r_aload_n (y := m12_endUnlike) dX12_endUnlike_8 rfl rfl ?_
  refine g_X12_41 (y := m12_endUnlike) rfl dX12_endUnlike_9 (St.i hm) ?_
  refine r_iload_n (y := m12_endUnlike) dX12_endUnlike_12 rfl rfl ?_
  obtain ⟨hb1, h⟩ := h
  refine r_iald (y := m12_endUnlike) (n := 6000) dX12_endUnlike_13 (sa_679 (St.i hm)) hb1 ?_
  refine V.top (b := (mI m 679 (Int32.toNatClampNeg a0))) (by first | rfl | simp [mI_set, mI_setR]) ?_
  refine r_aload_n (y := m12_endUnlike) dX12_endUnlike_14 rfl rfl ?_
  refine g_X12_44 (y := m12_endUnlike) rfl dX12_endUnlike_15 (St.i hm) ?_
  refine r_iload_n (y := m12_endUnlike) dX12_endUnlike_18 rfl rfl ?_
  obtain ⟨hb2, h⟩ := h
  refine r_iald (y := m12_endUnlike) (n := 6000) dX12_endUnlike_19 (sa_680 (St.i hm)) hb2 ?_
  refine V.top (b := (mI m 680 (Int32.toNatClampNeg a0))) (by first | rfl | simp [mI_set, mI_setR]) ?_
  refine r_callV (y := m12_endUnlike) (As := [(.int (mI m 679 (Int32.toNatClampNeg a0))), (.int (mI m 680 (Int32.toNatClampNeg a0)))]) (b := 668) (ci := 12) dX12_endUnlike_20 rfl k12_pair lm_X12_305 rfl ⟨by decide, by decide⟩ (so_668 (St.i hm)) (by decide) rfl (Nat.le_of_ble_eq_true rfl) (C.mono h ?_)
  rintro _ m3 ⟨rfl, hm4, h⟩
  refine ⟨none, rfl, ?_⟩
  exact h
set_option maxHeartbeats 4000000 in
set_option maxRecDepth 100000 in
theorem w12_endUnlike_23 {m : Mm} {K : Option Value ⊕ String → Mm → Prop} (hm : St m) {v1 : Int32} {v2 : Int32}  (h : ((v2 = 0 → V m12_endUnlike 186 [some (.ref 668), some (.int v1), some (.int v2), none, none] [] m K) ∧ (¬ v2 = 0 → ((¬ (mI m 668 29) = 0 → V m12_endUnlike 186 [some (.ref 668), some (.int v1), some (.int v2), none, none] [] m K) ∧ ((mI m 668 29) = 0 → (((mI m 668 42) ≤ 0 → V m12_endUnlike 186 [some (.ref 668), some (.int v1), some (.int v2), none, none] [] m K) ∧ (¬ (mI m 668 42) ≤ 0 → vp_in ((mI m 668 42) - 1) 6000 ∧ C m12_root [(.ref 668), (.int (mI m 699 (Int32.toNatClampNeg ((mI m 668 42) - 1))))] (mSetI m 668 42 ((mI m 668 42) - 1)) (fun o m5 => ∃ x7 : Int32, o = .inl (some (.int x7)) ∧ St m5 ∧ vp_in (mI m5 668 42) 6000 ∧ C m12_root [(.ref 668), (.int (mI m5 700 (Int32.toNatClampNeg (mI m5 668 42))))] m5 (fun o m9 => ∃ x11 : Int32, o = .inl (some (.int x11)) ∧ St m9 ∧ ((x7 = x11 → V m12_endUnlike 113 [some (.ref 668), some (.int v1), some (.int v2), some (.int x7), some (.int x11)] [] m9 K) ∧ (¬ x7 = x11 → vp_in x7 6000 ∧ (((mI m9 677 (Int32.toNatClampNeg x7)) = 0 → V m12_endUnlike 105 [some (.ref 668), some (.int v1), some (.int v2), some (.int x7), some (.int x11)] [] m9 K) ∧ (¬ (mI m9 677 (Int32.toNatClampNeg x7)) = 0 → vp_in x11 6000 ∧ ((¬ (mI m9 677 (Int32.toNatClampNeg x11)) = 0 → V m12_endUnlike 113 [some (.ref 668), some (.int v1), some (.int v2), some (.int x7), some (.int x11)] [] m9 K) ∧ ((mI m9 677 (Int32.toNatClampNeg x11)) = 0 → V m12_endUnlike 105 [some (.ref 668), some (.int v1), some (.int v2), some (.int x7), some (.int x11)] [] m9 K))))))))))))))) : V m12_endUnlike 23 [some (.ref 668), some (.int v1), some (.int v2), none, none] [] m K := by
  refine r_iload_n (y := m12_endUnlike) dX12_endUnlike_23 rfl rfl ?_
  refine r_if_eq (y := m12_endUnlike) (tgt := 186) dX12_endUnlike_24 (by decide) (fun hc1 => ?_) (fun hc1 => ?_)
  · have h := h.1 hc1
    exact h
  · have h := h.2 hc1
    refine r_aload_n (y := m12_endUnlike) dX12_endUnlike_27 rfl rfl ?_
    refine g_X12_245 (y := m12_endUnlike) rfl dX12_endUnlike_28 hm ?_
    refine r_if_ne (y := m12_endUnlike) (tgt := 186) dX12_endUnlike_31 (by decide) (fun hc2 => ?_) (fun hc2 => ?_)
    · have h := h.1 hc2
      exact h
    · have h := h.2 hc2
      refine r_aload_n (y := m12_endUnlike) dX12_endUnlike_34 rfl rfl ?_
      refine g_X12_296 (y := m12_endUnlike) rfl dX12_endUnlike_35 hm ?_
      refine r_if_le (y := m12_endUnlike) (tgt := 186) dX12_endUnlike_38 (by decide) (fun hc3 => ?_) (fun hc3 => ?_)
      · have h := h.1 hc3
        exact h
      · have h := h.2 hc3
        refine r_aload_n (y := m12_endUnlike) dX12_endUnlike_41 rfl rfl ?_
        refine r_dup_r (y := m12_endUnlike) dX12_endUnlike_42 ?_
        refine g_X12_296 (y := m12_endUnlike) rfl dX12_endUnlike_43 hm ?_
        refine r_iconst (y := m12_endUnlike) (v := 1) dX12_endUnlike_46 (by decide) ?_
        refine r_isub (y := m12_endUnlike) dX12_endUnlike_47 ?_
        refine p_X12_296 (y := m12_endUnlike) rfl dX12_endUnlike_48 hm ?_
        refine r_aload_n (y := m12_endUnlike) dX12_endUnlike_51 rfl rfl ?_
        refine r_aload_n (y := m12_endUnlike) dX12_endUnlike_52 rfl rfl ?_
        refine g_X12_101 (y := m12_endUnlike) rfl dX12_endUnlike_53 (St.i hm) ?_
        refine r_aload_n (y := m12_endUnlike) dX12_endUnlike_56 rfl rfl ?_
        refine g_X12_296 (y := m12_endUnlike) rfl dX12_endUnlike_57 (St.i hm) ?_
        refine V.top (b := ((mI m 668 42) - 1)) (by first | rfl | simp [mI_set, mI_setR]) ?_
        obtain ⟨hb4, h⟩ := h
        refine r_iald (y := m12_endUnlike) (n := 6000) dX12_endUnlike_60 (sa_699 (St.i hm)) hb4 ?_
        refine V.top (b := (mI m 699 (Int32.toNatClampNeg ((mI m 668 42) - 1)))) (by first | rfl | simp [mI_set, mI_setR]) ?_
        refine r_callV (y := m12_endUnlike) (As := [(.int (mI m 699 (Int32.toNatClampNeg ((mI m 668 42) - 1))))]) (b := 668) (ci := 12) dX12_endUnlike_61 rfl k12_root lm_X12_280 rfl ⟨by decide, by decide⟩ (so_668 (St.i hm)) (by decide) rfl (Nat.le_of_ble_eq_true rfl) (C.mono h ?_)
        rintro _ m5 ⟨x7, rfl, hm6, h⟩
        refine ⟨_, rfl, ?_⟩
        refine r_istore_n (y := m12_endUnlike) (L' := [some (.ref 668), some (.int v1), some (.int v2), some (.int x7), none]) dX12_endUnlike_64 rfl (Nat.le_of_ble_eq_true rfl) rfl ?_
        refine r_aload_n (y := m12_endUnlike) dX12_endUnlike_65 rfl rfl ?_
        refine r_aload_n (y := m12_endUnlike) dX12_endUnlike_66 rfl rfl ?_
        refine g_X12_104 (y := m12_endUnlike) rfl dX12_endUnlike_67 hm6 ?_
        refine r_aload_n (y := m12_endUnlike) dX12_endUnlike_70 rfl rfl ?_
        refine g_X12_296 (y := m12_endUnlike) rfl dX12_endUnlike_71 hm6 ?_
        obtain ⟨hb8, h⟩ := h
        refine r_iald (y := m12_endUnlike) (n := 6000) dX12_endUnlike_74 (sa_700 hm6) hb8 ?_
        refine r_callV (y := m12_endUnlike) (As := [(.int (mI m5 700 (Int32.toNatClampNeg (mI m5 668 42))))]) (b := 668) (ci := 12) dX12_endUnlike_75 rfl k12_root lm_X12_280 rfl ⟨by decide, by decide⟩ (so_668 hm6) (by decide) rfl (Nat.le_of_ble_eq_true rfl) (C.mono h ?_)
        rintro _ m9 ⟨x11, rfl, hm10, h⟩
        refine ⟨_, rfl, ?_⟩
        refine r_istore (y := m12_endUnlike) (L' := [some (.ref 668), some (.int v1), some (.int v2), some (.int x7), some (.int x11)]) dX12_endUnlike_78 (Nat.le_of_ble_eq_true rfl) rfl ?_
        refine r_iload_n (y := m12_endUnlike) dX12_endUnlike_80 rfl rfl ?_
        refine r_iload (y := m12_endUnlike) dX12_endUnlike_81 rfl ?_
        refine r_icmp_eq (y := m12_endUnlike) (tgt := 113) dX12_endUnlike_83 (by decide) (fun hc12 => ?_) (fun hc12 => ?_)
        · have h := h.1 hc12
          exact h
        · have h := h.2 hc12
          refine r_aload_n (y := m12_endUnlike) dX12_endUnlike_86 rfl rfl ?_
          refine g_X12_35 (y := m12_endUnlike) rfl dX12_endUnlike_87 hm10 ?_
          refine r_iload_n (y := m12_endUnlike) dX12_endUnlike_90 rfl rfl ?_
          obtain ⟨hb13, h⟩ := h
          refine r_iald (y := m12_endUnlike) (n := 6000) dX12_endUnlike_91 (sa_677 hm10) hb13 ?_
          refine r_if_eq (y := m12_endUnlike) (tgt := 105) dX12_endUnlike_92 (by decide) (fun hc14 => ?_) (fun hc14 => ?_)
          · have h := h.1 hc14
            exact h
          · have h := h.2 hc14
            refine r_aload_n (y := m12_endUnlike) dX12_endUnlike_95 rfl rfl ?_
            refine g_X12_35 (y := m12_endUnlike) rfl dX12_endUnlike_96 hm10 ?_
            refine r_iload (y := m12_endUnlike) dX12_endUnlike_99 rfl ?_
            obtain ⟨hb15, h⟩ := h
            refine r_iald (y := m12_endUnlike) (n := 6000) dX12_endUnlike_101 (sa_677 hm10) hb15 ?_
            refine r_if_ne (y := m12_endUnlike) (tgt := 113) dX12_endUnlike_102 (by decide) (fun hc16 => ?_) (fun hc16 => ?_)
            · have h := h.1 hc16
              exact h
            · have h := h.2 hc16
              exact h
set_option maxHeartbeats 4000000 in
set_option maxRecDepth 100000 in
theorem w12_endUnlike_186 {m : Mm} {K : Option Value ⊕ String → Mm → Prop} (hm : St m) {v1 : Int32} {v2 : Int32}  (h : (((mI m 668 29) = 0 → ((v2 = 0 → C m12_becomeData [(.ref 668), (.int v1), (.int 1)] m (fun o m3 => o = .inl none ∧ St m3 ∧ V m12_endUnlike 217 [some (.ref 668), some (.int v1), some (.int v2), none, none] [] m3 K)) ∧ (¬ v2 = 0 → vp_in v1 6000 ∧ C m12_fail [(.ref 668), (.int (mI m 681 (Int32.toNatClampNeg v1)))] m (fun o m6 => o = .inl none ∧ St m6 ∧ V m12_endUnlike 217 [some (.ref 668), some (.int v1), some (.int v2), none, none] [] m6 K)))) ∧ (¬ (mI m 668 29) = 0 → K (.inl none) m))) : V m12_endUnlike 186 [some (.ref 668), some (.int v1), some (.int v2), none, none] [] m K := by
  refine r_aload_n (y := m12_endUnlike) dX12_endUnlike_186 rfl rfl ?_
  refine g_X12_245 (y := m12_endUnlike) rfl dX12_endUnlike_187 hm ?_
  refine r_if_eq (y := m12_endUnlike) (tgt := 194) dX12_endUnlike_190 (by decide) (fun hc1 => ?_) (fun hc1 => ?_)
  · have h := h.1 hc1
    refine r_iload_n (y := m12_endUnlike) dX12_endUnlike_194 rfl rfl ?_
    refine r_if_eq (y := m12_endUnlike) (tgt := 211) dX12_endUnlike_195 (by decide) (fun hc2 => ?_) (fun hc2 => ?_)
    · have h := h.1 hc2
      refine r_aload_n (y := m12_endUnlike) dX12_endUnlike_211 rfl rfl ?_
      refine r_iload_n (y := m12_endUnlike) dX12_endUnlike_212 rfl rfl ?_
      refine r_iconst (y := m12_endUnlike) (v := 1) dX12_endUnlike_213 (by decide) ?_
      refine r_callV (y := m12_endUnlike) (As := [(.int v1), (.int 1)]) (b := 668) (ci := 12) dX12_endUnlike_214 rfl k12_becomeData lm_X12_267 rfl ⟨by decide, by decide⟩ (so_668 hm) (by decide) rfl (Nat.le_of_ble_eq_true rfl) (C.mono h ?_)
      rintro _ m3 ⟨rfl, hm4, h⟩
      refine ⟨none, rfl, ?_⟩
      exact h
    · have h := h.2 hc2
      refine r_aload_n (y := m12_endUnlike) dX12_endUnlike_198 rfl rfl ?_
      refine r_aload_n (y := m12_endUnlike) dX12_endUnlike_199 rfl rfl ?_
      refine g_X12_47 (y := m12_endUnlike) rfl dX12_endUnlike_200 hm ?_
      refine r_iload_n (y := m12_endUnlike) dX12_endUnlike_203 rfl rfl ?_
      obtain ⟨hb5, h⟩ := h
      refine r_iald (y := m12_endUnlike) (n := 6000) dX12_endUnlike_204 (sa_681 hm) hb5 ?_
      refine r_callV (y := m12_endUnlike) (As := [(.int (mI m 681 (Int32.toNatClampNeg v1)))]) (b := 668) (ci := 12) dX12_endUnlike_205 rfl k12_fail lm_X12_270 rfl ⟨by decide, by decide⟩ (so_668 hm) (by decide) rfl (Nat.le_of_ble_eq_true rfl) (C.mono h ?_)
      rintro _ m6 ⟨rfl, hm7, h⟩
      refine ⟨none, rfl, ?_⟩
      refine r_goto (y := m12_endUnlike) (tgt := 217) dX12_endUnlike_208 (by decide) ?_
      exact h
  · have h := h.2 hc1
    exact r_ret (y := m12_endUnlike) dX12_endUnlike_193 rfl h
set_option maxHeartbeats 4000000 in
set_option maxRecDepth 100000 in
theorem w12_endUnlike_113 {m : Mm} {K : Option Value ⊕ String → Mm → Prop} (hm : St m) {v1 : Int32} {v2 : Int32} {v3 : Int32} {v4 : Int32}  (h : ((v3 = v4 → V m12_endUnlike 183 [some (.ref 668), some (.int v1), some (.int v2), some (.int v3), some (.int v4)] [] m K) ∧ (¬ v3 = v4 → C m12_step [(.ref 668)] m (fun o m2 => o = .inl none ∧ St m2 ∧ vp_in v3 6000 ∧ vp_in v4 6000 ∧ ((¬ (mI m2 678 (Int32.toNatClampNeg v3)) = (mI m2 678 (Int32.toNatClampNeg v4)) → (((0 : Int32) = 0 → V m12_endUnlike 183 [some (.ref 668), some (.int v1), some (.int 0), some (.int v3), some (.int v4)] [] m2 K) ∧ (¬ (0 : Int32) = 0 → vp_in v3 6000 ∧ vp_in v4 6000 ∧ C m12_pair [(.ref 668), (.int (mI m2 680 (Int32.toNatClampNeg v3))), (.int (mI m2 680 (Int32.toNatClampNeg v4)))] m2 (fun o m10 => o = .inl none ∧ St m10 ∧ vp_in v3 6000 ∧ vp_in v4 6000 ∧ C m12_pair [(.ref 668), (.int (mI m10 679 (Int32.toNatClampNeg v3))), (.int (mI m10 679 (Int32.toNatClampNeg v4)))] m10 (fun o m14 => o = .inl none ∧ St m14 ∧ V m12_endUnlike 183 [some (.ref 668), some (.int v1), some (.int 0), some (.int v3), some (.int v4)] [] m14 K))))) ∧ ((mI m2 678 (Int32.toNatClampNeg v3)) = (mI m2 678 (Int32.toNatClampNeg v4)) → (((1 : Int32) = 0 → V m12_endUnlike 183 [some (.ref 668), some (.int v1), some (.int 1), some (.int v3), some (.int v4)] [] m2 K) ∧ (¬ (1 : Int32) = 0 → vp_in v3 6000 ∧ vp_in v4 6000 ∧ C m12_pair [(.ref 668), (.int (mI m2 680 (Int32.toNatClampNeg v3))), (.int (mI m2 680 (Int32.toNatClampNeg v4)))] m2 (fun o m19 => o = .inl none ∧ St m19 ∧ vp_in v3 6000 ∧ vp_in v4 6000 ∧ C m12_pair [(.ref 668), (.int (mI m19 679 (Int32.toNatClampNeg v3))), (.int (mI m19 679 (Int32.toNatClampNeg v4)))] m19 (fun o m23 => o = .inl none ∧ St m23 ∧ V m12_endUnlike 183 [some (.ref 668), some (.int v1), some (.int 1), some (.int v3), some (.int v4)] [] m23 K)))))))))) : V m12_endUnlike 113 [some (.ref 668), some (.int v1), some (.int v2), some (.int v3), some (.int v4)] [] m K := by
  refine r_iload_n (y := m12_endUnlike) dX12_endUnlike_113 rfl rfl ?_
  refine r_iload (y := m12_endUnlike) dX12_endUnlike_114 rfl ?_
  refine r_icmp_eq (y := m12_endUnlike) (tgt := 183) dX12_endUnlike_116 (by decide) (fun hc1 => ?_) (fun hc1 => ?_)
  · have h := h.1 hc1
    exact h
  · have h := h.2 hc1
    refine r_aload_n (y := m12_endUnlike) dX12_endUnlike_119 rfl rfl ?_
    refine r_callV (y := m12_endUnlike) (As := []) (b := 668) (ci := 12) dX12_endUnlike_120 rfl k12_step lm_X12_254 rfl ⟨by decide, by decide⟩ (so_668 hm) (by decide) rfl (Nat.le_of_ble_eq_true rfl) (C.mono h ?_)
    rintro _ m2 ⟨rfl, hm3, h⟩
    refine ⟨none, rfl, ?_⟩
    refine r_aload_n (y := m12_endUnlike) dX12_endUnlike_123 rfl rfl ?_
    refine g_X12_38 (y := m12_endUnlike) rfl dX12_endUnlike_124 hm3 ?_
    refine r_iload_n (y := m12_endUnlike) dX12_endUnlike_127 rfl rfl ?_
    obtain ⟨hb4, h⟩ := h
    refine r_iald (y := m12_endUnlike) (n := 6000) dX12_endUnlike_128 (sa_678 hm3) hb4 ?_
    refine r_aload_n (y := m12_endUnlike) dX12_endUnlike_129 rfl rfl ?_
    refine g_X12_38 (y := m12_endUnlike) rfl dX12_endUnlike_130 hm3 ?_
    refine r_iload (y := m12_endUnlike) dX12_endUnlike_133 rfl ?_
    obtain ⟨hb5, h⟩ := h
    refine r_iald (y := m12_endUnlike) (n := 6000) dX12_endUnlike_135 (sa_678 hm3) hb5 ?_
    refine r_icmp_ne (y := m12_endUnlike) (tgt := 143) dX12_endUnlike_136 (by decide) (fun hc6 => ?_) (fun hc6 => ?_)
    · have h := h.1 hc6
      refine r_iconst (y := m12_endUnlike) (v := 0) dX12_endUnlike_143 (by decide) ?_
      refine r_istore_n (y := m12_endUnlike) (L' := [some (.ref 668), some (.int v1), some (.int 0), some (.int v3), some (.int v4)]) dX12_endUnlike_144 rfl (Nat.le_of_ble_eq_true rfl) rfl ?_
      refine r_iload_n (y := m12_endUnlike) dX12_endUnlike_145 rfl rfl ?_
      refine r_if_eq (y := m12_endUnlike) (tgt := 183) dX12_endUnlike_146 (by decide) (fun hc7 => ?_) (fun hc7 => ?_)
      · have h := h.1 hc7
        exact h
      · have h := h.2 hc7
        refine r_aload_n (y := m12_endUnlike) dX12_endUnlike_149 rfl rfl ?_
        refine r_aload_n (y := m12_endUnlike) dX12_endUnlike_150 rfl rfl ?_
        refine g_X12_44 (y := m12_endUnlike) rfl dX12_endUnlike_151 hm3 ?_
        refine r_iload_n (y := m12_endUnlike) dX12_endUnlike_154 rfl rfl ?_
        obtain ⟨hb8, h⟩ := h
        refine r_iald (y := m12_endUnlike) (n := 6000) dX12_endUnlike_155 (sa_680 hm3) hb8 ?_
        refine r_aload_n (y := m12_endUnlike) dX12_endUnlike_156 rfl rfl ?_
        refine g_X12_44 (y := m12_endUnlike) rfl dX12_endUnlike_157 hm3 ?_
        refine r_iload (y := m12_endUnlike) dX12_endUnlike_160 rfl ?_
        obtain ⟨hb9, h⟩ := h
        refine r_iald (y := m12_endUnlike) (n := 6000) dX12_endUnlike_162 (sa_680 hm3) hb9 ?_
        refine r_callV (y := m12_endUnlike) (As := [(.int (mI m2 680 (Int32.toNatClampNeg v3))), (.int (mI m2 680 (Int32.toNatClampNeg v4)))]) (b := 668) (ci := 12) dX12_endUnlike_163 rfl k12_pair lm_X12_305 rfl ⟨by decide, by decide⟩ (so_668 hm3) (by decide) rfl (Nat.le_of_ble_eq_true rfl) (C.mono h ?_)
        rintro _ m10 ⟨rfl, hm11, h⟩
        refine ⟨none, rfl, ?_⟩
        refine r_aload_n (y := m12_endUnlike) dX12_endUnlike_166 rfl rfl ?_
        refine r_aload_n (y := m12_endUnlike) dX12_endUnlike_167 rfl rfl ?_
        refine g_X12_41 (y := m12_endUnlike) rfl dX12_endUnlike_168 hm11 ?_
        refine r_iload_n (y := m12_endUnlike) dX12_endUnlike_171 rfl rfl ?_
        obtain ⟨hb12, h⟩ := h
        refine r_iald (y := m12_endUnlike) (n := 6000) dX12_endUnlike_172 (sa_679 hm11) hb12 ?_
        refine r_aload_n (y := m12_endUnlike) dX12_endUnlike_173 rfl rfl ?_
        refine g_X12_41 (y := m12_endUnlike) rfl dX12_endUnlike_174 hm11 ?_
        refine r_iload (y := m12_endUnlike) dX12_endUnlike_177 rfl ?_
        obtain ⟨hb13, h⟩ := h
        refine r_iald (y := m12_endUnlike) (n := 6000) dX12_endUnlike_179 (sa_679 hm11) hb13 ?_
        refine r_callV (y := m12_endUnlike) (As := [(.int (mI m10 679 (Int32.toNatClampNeg v3))), (.int (mI m10 679 (Int32.toNatClampNeg v4)))]) (b := 668) (ci := 12) dX12_endUnlike_180 rfl k12_pair lm_X12_305 rfl ⟨by decide, by decide⟩ (so_668 hm11) (by decide) rfl (Nat.le_of_ble_eq_true rfl) (C.mono h ?_)
        rintro _ m14 ⟨rfl, hm15, h⟩
        refine ⟨none, rfl, ?_⟩
        exact h
    · have h := h.2 hc6
      refine r_iconst (y := m12_endUnlike) (v := 1) dX12_endUnlike_139 (by decide) ?_
      refine r_goto (y := m12_endUnlike) (tgt := 144) dX12_endUnlike_140 (by decide) ?_
      refine r_istore_n (y := m12_endUnlike) (L' := [some (.ref 668), some (.int v1), some (.int 1), some (.int v3), some (.int v4)]) dX12_endUnlike_144 rfl (Nat.le_of_ble_eq_true rfl) rfl ?_
      refine r_iload_n (y := m12_endUnlike) dX12_endUnlike_145 rfl rfl ?_
      refine r_if_eq (y := m12_endUnlike) (tgt := 183) dX12_endUnlike_146 (by decide) (fun hc16 => ?_) (fun hc16 => ?_)
      · have h := h.1 hc16
        exact h
      · have h := h.2 hc16
        refine r_aload_n (y := m12_endUnlike) dX12_endUnlike_149 rfl rfl ?_
        refine r_aload_n (y := m12_endUnlike) dX12_endUnlike_150 rfl rfl ?_
        refine g_X12_44 (y := m12_endUnlike) rfl dX12_endUnlike_151 hm3 ?_
        refine r_iload_n (y := m12_endUnlike) dX12_endUnlike_154 rfl rfl ?_
        obtain ⟨hb17, h⟩ := h
        refine r_iald (y := m12_endUnlike) (n := 6000) dX12_endUnlike_155 (sa_680 hm3) hb17 ?_
        refine r_aload_n (y := m12_endUnlike) dX12_endUnlike_156 rfl rfl ?_
        refine g_X12_44 (y := m12_endUnlike) rfl dX12_endUnlike_157 hm3 ?_
        refine r_iload (y := m12_endUnlike) dX12_endUnlike_160 rfl ?_
        obtain ⟨hb18, h⟩ := h
        refine r_iald (y := m12_endUnlike) (n := 6000) dX12_endUnlike_162 (sa_680 hm3) hb18 ?_
        refine r_callV (y := m12_endUnlike) (As := [(.int (mI m2 680 (Int32.toNatClampNeg v3))), (.int (mI m2 680 (Int32.toNatClampNeg v4)))]) (b := 668) (ci := 12) dX12_endUnlike_163 rfl k12_pair lm_X12_305 rfl ⟨by decide, by decide⟩ (so_668 hm3) (by decide) rfl (Nat.le_of_ble_eq_true rfl) (C.mono h ?_)
        rintro _ m19 ⟨rfl, hm20, h⟩
        refine ⟨none, rfl, ?_⟩
        refine r_aload_n (y := m12_endUnlike) dX12_endUnlike_166 rfl rfl ?_
        refine r_aload_n (y := m12_endUnlike) dX12_endUnlike_167 rfl rfl ?_
        refine g_X12_41 (y := m12_endUnlike) rfl dX12_endUnlike_168 hm20 ?_
        refine r_iload_n (y := m12_endUnlike) dX12_endUnlike_171 rfl rfl ?_
        obtain ⟨hb21, h⟩ := h
        refine r_iald (y := m12_endUnlike) (n := 6000) dX12_endUnlike_172 (sa_679 hm20) hb21 ?_
        refine r_aload_n (y := m12_endUnlike) dX12_endUnlike_173 rfl rfl ?_
        refine g_X12_41 (y := m12_endUnlike) rfl dX12_endUnlike_174 hm20 ?_
        refine r_iload (y := m12_endUnlike) dX12_endUnlike_177 rfl ?_
        obtain ⟨hb22, h⟩ := h
        refine r_iald (y := m12_endUnlike) (n := 6000) dX12_endUnlike_179 (sa_679 hm20) hb22 ?_
        refine r_callV (y := m12_endUnlike) (As := [(.int (mI m19 679 (Int32.toNatClampNeg v3))), (.int (mI m19 679 (Int32.toNatClampNeg v4)))]) (b := 668) (ci := 12) dX12_endUnlike_180 rfl k12_pair lm_X12_305 rfl ⟨by decide, by decide⟩ (so_668 hm20) (by decide) rfl (Nat.le_of_ble_eq_true rfl) (C.mono h ?_)
        rintro _ m23 ⟨rfl, hm24, h⟩
        refine ⟨none, rfl, ?_⟩
        exact h
set_option maxHeartbeats 4000000 in
set_option maxRecDepth 100000 in
theorem w12_endUnlike_105 {m : Mm} {K : Option Value ⊕ String → Mm → Prop} (hm : St m) {v1 : Int32} {v2 : Int32} {v3 : Int32} {v4 : Int32}  (h : V m12_endUnlike 183 [some (.ref 668), some (.int v1), some (.int v2), some (.int v3), some (.int v4)] [] (mSetI m 668 29 3) K) : V m12_endUnlike 105 [some (.ref 668), some (.int v1), some (.int v2), some (.int v3), some (.int v4)] [] m K := by
  refine r_aload_n (y := m12_endUnlike) dX12_endUnlike_105 rfl rfl ?_
  refine r_iconst (y := m12_endUnlike) (v := 3) dX12_endUnlike_106 (by decide) ?_
  refine p_X12_245 (y := m12_endUnlike) rfl dX12_endUnlike_107 hm ?_
  refine r_goto (y := m12_endUnlike) (tgt := 183) dX12_endUnlike_110 (by decide) ?_
  exact h
set_option maxHeartbeats 4000000 in
set_option maxRecDepth 100000 in
theorem w12_endUnlike_217 {m : Mm} {K : Option Value ⊕ String → Mm → Prop} (hm : St m) {v1 : Int32} {v2 : Int32}  (h : K (.inl none) m) : V m12_endUnlike 217 [some (.ref 668), some (.int v1), some (.int v2), none, none] [] m K := by
  exact r_ret (y := m12_endUnlike) dX12_endUnlike_217 rfl h
set_option maxHeartbeats 4000000 in
set_option maxRecDepth 100000 in
theorem w12_endUnlike_183 {m : Mm} {K : Option Value ⊕ String → Mm → Prop} (hm : St m) {v1 : Int32} {v2 : Int32} {v3 : Int32} {v4 : Int32}  (h : V m12_endUnlike 23 [some (.ref 668), some (.int v1), some (.int v2), some (.int v3), some (.int v4)] [] m K) : V m12_endUnlike 183 [some (.ref 668), some (.int v1), some (.int v2), some (.int v3), some (.int v4)] [] m K := by
  refine r_goto (y := m12_endUnlike) (tgt := 23) dX12_endUnlike_183 (by decide) ?_
  exact h
set_option maxHeartbeats 4000000 in
set_option maxRecDepth 100000 in
theorem w12_does {m : Mm} {K : Option Value ⊕ String → Mm → Prop} (hm : St m) {a0 : Int32} {a1 : Int32} {a2 : Int32} {a3 : Int32}  (h : ((a0 = 0 → C m12_force [(.ref 668), (.int a1)] m (fun o m2 => o = .inl none ∧ St m2 ∧ K (.inl none) m2)) ∧ (a0 = 1 → C m12_task [(.ref 668), (.int 2), (.int a1), (.int 0), (.int 0)] m (fun o m5 => o = .inl none ∧ St m5 ∧ C m12_task [(.ref 668), (.int 0), (.int a1), (.int 0), (.int 0)] m5 (fun o m7 => o = .inl none ∧ St m7 ∧ K (.inl none) m7))) ∧ (a0 = 2 → C m12_parts [(.ref 668), (.int a1)] m (fun o m10 => o = .inl none ∧ St m10 ∧ K (.inl none) m10)) ∧ (a0 = 3 → vp_in a1 6000 ∧ K (.inl none) (mSetI m 684 (Int32.toNatClampNeg a1) 1)) ∧ (a0 = 4 → C m12_match [(.ref 668), (.int a1), (.int a2), (.int a3)] m (fun o m15 => o = .inl none ∧ St m15 ∧ K (.inl none) m15)) ∧ (a0 = 5 → C m12_matchData [(.ref 668), (.int a1), (.int a2), (.int a3)] m (fun o m18 => o = .inl none ∧ St m18 ∧ K (.inl none) m18)) ∧ (a0 = 6 → C m12_endCall [(.ref 668), (.int a1)] m (fun o m21 => o = .inl none ∧ St m21 ∧ K (.inl none) m21)) ∧ (a0 = 7 → C m12_endSame [(.ref 668), (.int a1)] m (fun o m24 => o = .inl none ∧ St m24 ∧ K (.inl none) m24)) ∧ (a0 = 8 → C m12_endUnlike [(.ref 668), (.int a1)] m (fun o m27 => o = .inl none ∧ St m27 ∧ K (.inl none) m27)) ∧ (¬ a0 = 0 → ¬ a0 = 1 → ¬ a0 = 2 → ¬ a0 = 3 → ¬ a0 = 4 → ¬ a0 = 5 → ¬ a0 = 6 → ¬ a0 = 7 → ¬ a0 = 8 → C m12_becomeData [(.ref 668), (.int a1), (.int 1)] m (fun o m29 => o = .inl none ∧ St m29 ∧ K (.inl none) (mSetI m29 668 31 ((mI m29 668 31) - 1)))))) : V m12_does 0 [some (.ref 668), some (.int a0), some (.int a1), some (.int a2), some (.int a3)] [] m K := by
  refine r_iload_n (y := m12_does) dX12_does_0 rfl rfl ?_
  by_cases hc1 : a0 = 0
  · have h := h.1 hc1
    refine r_tableIn (y := m12_does) (x := a0) (off := 51) (tgt := 52) dX12_does_1 (by rw [hc1]; decide) (by rw [hc1]; decide) (by rw [hc1]; rfl) (by decide) ?_
    refine r_aload_n (y := m12_does) dX12_does_52 rfl rfl ?_
    refine r_iload_n (y := m12_does) dX12_does_53 rfl rfl ?_
    refine r_callV (y := m12_does) (As := [(.int a1)]) (b := 668) (ci := 12) dX12_does_54 rfl k12_force lm_X12_311 rfl ⟨by decide, by decide⟩ (so_668 hm) (by decide) rfl (Nat.le_of_ble_eq_true rfl) (C.mono h ?_)
    rintro _ m2 ⟨rfl, hm3, h⟩
    refine ⟨none, rfl, ?_⟩
    refine r_goto (y := m12_does) (tgt := 159) dX12_does_57 (by decide) ?_
    exact r_ret (y := m12_does) dX12_does_159 rfl h
  by_cases hc4 : a0 = 1
  · have h := h.2.1 hc4
    refine r_tableIn (y := m12_does) (x := a0) (off := 59) (tgt := 60) dX12_does_1 (by rw [hc4]; decide) (by rw [hc4]; decide) (by rw [hc4]; rfl) (by decide) ?_
    refine r_aload_n (y := m12_does) dX12_does_60 rfl rfl ?_
    refine r_iconst (y := m12_does) (v := 2) dX12_does_61 (by decide) ?_
    refine r_iload_n (y := m12_does) dX12_does_62 rfl rfl ?_
    refine r_iconst (y := m12_does) (v := 0) dX12_does_63 (by decide) ?_
    refine r_iconst (y := m12_does) (v := 0) dX12_does_64 (by decide) ?_
    refine r_callV (y := m12_does) (As := [(.int 2), (.int a1), (.int 0), (.int 0)]) (b := 668) (ci := 12) dX12_does_65 rfl k12_task lm_X12_260 rfl ⟨by decide, by decide⟩ (so_668 hm) (by decide) rfl (Nat.le_of_ble_eq_true rfl) (C.mono h ?_)
    rintro _ m5 ⟨rfl, hm6, h⟩
    refine ⟨none, rfl, ?_⟩
    refine r_aload_n (y := m12_does) dX12_does_68 rfl rfl ?_
    refine r_iconst (y := m12_does) (v := 0) dX12_does_69 (by decide) ?_
    refine r_iload_n (y := m12_does) dX12_does_70 rfl rfl ?_
    refine r_iconst (y := m12_does) (v := 0) dX12_does_71 (by decide) ?_
    refine r_iconst (y := m12_does) (v := 0) dX12_does_72 (by decide) ?_
    refine r_callV (y := m12_does) (As := [(.int 0), (.int a1), (.int 0), (.int 0)]) (b := 668) (ci := 12) dX12_does_73 rfl k12_task lm_X12_260 rfl ⟨by decide, by decide⟩ (so_668 hm6) (by decide) rfl (Nat.le_of_ble_eq_true rfl) (C.mono h ?_)
    rintro _ m7 ⟨rfl, hm8, h⟩
    refine ⟨none, rfl, ?_⟩
    refine r_goto (y := m12_does) (tgt := 159) dX12_does_76 (by decide) ?_
    exact r_ret (y := m12_does) dX12_does_159 rfl h
  by_cases hc9 : a0 = 2
  · have h := h.2.2.1 hc9
    refine r_tableIn (y := m12_does) (x := a0) (off := 78) (tgt := 79) dX12_does_1 (by rw [hc9]; decide) (by rw [hc9]; decide) (by rw [hc9]; rfl) (by decide) ?_
    refine r_aload_n (y := m12_does) dX12_does_79 rfl rfl ?_
    refine r_iload_n (y := m12_does) dX12_does_80 rfl rfl ?_
    refine r_callV (y := m12_does) (As := [(.int a1)]) (b := 668) (ci := 12) dX12_does_81 rfl k12_parts lm_X12_314 rfl ⟨by decide, by decide⟩ (so_668 hm) (by decide) rfl (Nat.le_of_ble_eq_true rfl) (C.mono h ?_)
    rintro _ m10 ⟨rfl, hm11, h⟩
    refine ⟨none, rfl, ?_⟩
    refine r_goto (y := m12_does) (tgt := 159) dX12_does_84 (by decide) ?_
    exact r_ret (y := m12_does) dX12_does_159 rfl h
  by_cases hc12 : a0 = 3
  · have h := h.2.2.2.1 hc12
    refine r_tableIn (y := m12_does) (x := a0) (off := 86) (tgt := 87) dX12_does_1 (by rw [hc12]; decide) (by rw [hc12]; decide) (by rw [hc12]; rfl) (by decide) ?_
    refine r_aload_n (y := m12_does) dX12_does_87 rfl rfl ?_
    refine g_X12_56 (y := m12_does) rfl dX12_does_88 hm ?_
    refine r_iload_n (y := m12_does) dX12_does_91 rfl rfl ?_
    refine r_iconst (y := m12_does) (v := 1) dX12_does_92 (by decide) ?_
    obtain ⟨hb13, h⟩ := h
    refine r_zast (y := m12_does) (n := 6000) dX12_does_93 (sa_684 hm) hb13 (by decide) ?_
    refine r_goto (y := m12_does) (tgt := 159) dX12_does_94 (by decide) ?_
    exact r_ret (y := m12_does) dX12_does_159 rfl h
  by_cases hc14 : a0 = 4
  · have h := h.2.2.2.2.1 hc14
    refine r_tableIn (y := m12_does) (x := a0) (off := 96) (tgt := 97) dX12_does_1 (by rw [hc14]; decide) (by rw [hc14]; decide) (by rw [hc14]; rfl) (by decide) ?_
    refine r_aload_n (y := m12_does) dX12_does_97 rfl rfl ?_
    refine r_iload_n (y := m12_does) dX12_does_98 rfl rfl ?_
    refine r_iload_n (y := m12_does) dX12_does_99 rfl rfl ?_
    refine r_iload (y := m12_does) dX12_does_100 rfl ?_
    refine r_callV (y := m12_does) (As := [(.int a1), (.int a2), (.int a3)]) (b := 668) (ci := 12) dX12_does_102 rfl k12_match lm_X12_317 rfl ⟨by decide, by decide⟩ (so_668 hm) (by decide) rfl (Nat.le_of_ble_eq_true rfl) (C.mono h ?_)
    rintro _ m15 ⟨rfl, hm16, h⟩
    refine ⟨none, rfl, ?_⟩
    refine r_goto (y := m12_does) (tgt := 159) dX12_does_105 (by decide) ?_
    exact r_ret (y := m12_does) dX12_does_159 rfl h
  by_cases hc17 : a0 = 5
  · have h := h.2.2.2.2.2.1 hc17
    refine r_tableIn (y := m12_does) (x := a0) (off := 107) (tgt := 108) dX12_does_1 (by rw [hc17]; decide) (by rw [hc17]; decide) (by rw [hc17]; rfl) (by decide) ?_
    refine r_aload_n (y := m12_does) dX12_does_108 rfl rfl ?_
    refine r_iload_n (y := m12_does) dX12_does_109 rfl rfl ?_
    refine r_iload_n (y := m12_does) dX12_does_110 rfl rfl ?_
    refine r_iload (y := m12_does) dX12_does_111 rfl ?_
    refine r_callV (y := m12_does) (As := [(.int a1), (.int a2), (.int a3)]) (b := 668) (ci := 12) dX12_does_113 rfl k12_matchData lm_X12_320 rfl ⟨by decide, by decide⟩ (so_668 hm) (by decide) rfl (Nat.le_of_ble_eq_true rfl) (C.mono h ?_)
    rintro _ m18 ⟨rfl, hm19, h⟩
    refine ⟨none, rfl, ?_⟩
    refine r_goto (y := m12_does) (tgt := 159) dX12_does_116 (by decide) ?_
    exact r_ret (y := m12_does) dX12_does_159 rfl h
  by_cases hc20 : a0 = 6
  · have h := h.2.2.2.2.2.2.1 hc20
    refine r_tableIn (y := m12_does) (x := a0) (off := 118) (tgt := 119) dX12_does_1 (by rw [hc20]; decide) (by rw [hc20]; decide) (by rw [hc20]; rfl) (by decide) ?_
    refine r_aload_n (y := m12_does) dX12_does_119 rfl rfl ?_
    refine r_iload_n (y := m12_does) dX12_does_120 rfl rfl ?_
    refine r_callV (y := m12_does) (As := [(.int a1)]) (b := 668) (ci := 12) dX12_does_121 rfl k12_endCall lm_X12_323 rfl ⟨by decide, by decide⟩ (so_668 hm) (by decide) rfl (Nat.le_of_ble_eq_true rfl) (C.mono h ?_)
    rintro _ m21 ⟨rfl, hm22, h⟩
    refine ⟨none, rfl, ?_⟩
    refine r_goto (y := m12_does) (tgt := 159) dX12_does_124 (by decide) ?_
    exact r_ret (y := m12_does) dX12_does_159 rfl h
  by_cases hc23 : a0 = 7
  · have h := h.2.2.2.2.2.2.2.1 hc23
    refine r_tableIn (y := m12_does) (x := a0) (off := 126) (tgt := 127) dX12_does_1 (by rw [hc23]; decide) (by rw [hc23]; decide) (by rw [hc23]; rfl) (by decide) ?_
    refine r_aload_n (y := m12_does) dX12_does_127 rfl rfl ?_
    refine r_iload_n (y := m12_does) dX12_does_128 rfl rfl ?_
    refine r_callV (y := m12_does) (As := [(.int a1)]) (b := 668) (ci := 12) dX12_does_129 rfl k12_endSame lm_X12_326 rfl ⟨by decide, by decide⟩ (so_668 hm) (by decide) rfl (Nat.le_of_ble_eq_true rfl) (C.mono h ?_)
    rintro _ m24 ⟨rfl, hm25, h⟩
    refine ⟨none, rfl, ?_⟩
    refine r_goto (y := m12_does) (tgt := 159) dX12_does_132 (by decide) ?_
    exact r_ret (y := m12_does) dX12_does_159 rfl h
  by_cases hc26 : a0 = 8
  · have h := h.2.2.2.2.2.2.2.2.1 hc26
    refine r_tableIn (y := m12_does) (x := a0) (off := 134) (tgt := 135) dX12_does_1 (by rw [hc26]; decide) (by rw [hc26]; decide) (by rw [hc26]; rfl) (by decide) ?_
    refine r_aload_n (y := m12_does) dX12_does_135 rfl rfl ?_
    refine r_iload_n (y := m12_does) dX12_does_136 rfl rfl ?_
    refine r_callV (y := m12_does) (As := [(.int a1)]) (b := 668) (ci := 12) dX12_does_137 rfl k12_endUnlike lm_X12_329 rfl ⟨by decide, by decide⟩ (so_668 hm) (by decide) rfl (Nat.le_of_ble_eq_true rfl) (C.mono h ?_)
    rintro _ m27 ⟨rfl, hm28, h⟩
    refine ⟨none, rfl, ?_⟩
    refine r_goto (y := m12_does) (tgt := 159) dX12_does_140 (by decide) ?_
    exact r_ret (y := m12_does) dX12_does_159 rfl h
  have h := h.2.2.2.2.2.2.2.2.2 hc1 hc4 hc9 hc12 hc14 hc17 hc20 hc23 hc26
  have hc1 := lv_neT hc1 (a := 0) (by decide)
  have hc4 := lv_neT hc4 (a := 1) (by decide)
  have hc9 := lv_neT hc9 (a := 2) (by decide)
  have hc12 := lv_neT hc12 (a := 3) (by decide)
  have hc14 := lv_neT hc14 (a := 4) (by decide)
  have hc17 := lv_neT hc17 (a := 5) (by decide)
  have hc20 := lv_neT hc20 (a := 6) (by decide)
  have hc23 := lv_neT hc23 (a := 7) (by decide)
  have hc26 := lv_neT hc26 (a := 8) (by decide)
  refine r_tableOut (y := m12_does) (x := a0) (tgt := 143) dX12_does_1 (by omega) (by decide) ?_
  refine r_aload_n (y := m12_does) dX12_does_143 rfl rfl ?_
  refine r_iload_n (y := m12_does) dX12_does_144 rfl rfl ?_
  refine r_iconst (y := m12_does) (v := 1) dX12_does_145 (by decide) ?_
  refine r_callV (y := m12_does) (As := [(.int a1), (.int 1)]) (b := 668) (ci := 12) dX12_does_146 rfl k12_becomeData lm_X12_267 rfl ⟨by decide, by decide⟩ (so_668 hm) (by decide) rfl (Nat.le_of_ble_eq_true rfl) (C.mono h ?_)
  rintro _ m29 ⟨rfl, hm30, h⟩
  refine ⟨none, rfl, ?_⟩
  refine r_aload_n (y := m12_does) dX12_does_149 rfl rfl ?_
  refine r_dup_r (y := m12_does) dX12_does_150 ?_
  refine g_X12_251 (y := m12_does) rfl dX12_does_151 hm30 ?_
  refine r_iconst (y := m12_does) (v := 1) dX12_does_154 (by decide) ?_
  refine r_isub (y := m12_does) dX12_does_155 ?_
  refine p_X12_251 (y := m12_does) rfl dX12_does_156 hm30 ?_
  exact r_ret (y := m12_does) dX12_does_159 rfl h
set_option maxHeartbeats 4000000 in
set_option maxRecDepth 100000 in
theorem w12_run {m : Mm} {K : Option Value ⊕ String → Mm → Prop} (hm : St m)   (h : vp_in 0 110 ∧ C m12_newNames [(.ref 668)] (mSetI (mSetI (mSetI (mSetI (mSetI (mSetI (mSetI m 668 13 0) 668 22 0) 668 24 0) 668 30 0) 668 31 0) 694 0 0) 668 29 0) (fun o m2 => ∃ x4 : Int32, o = .inl (some (.int x4)) ∧ St m2 ∧ C m12_opens [(.ref 668), (.int 0), (.int x4), (.int 0)] (mSetI m2 668 49 x4) (fun o m5 => o = .inl none ∧ St m5 ∧ C m12_make [(.ref 668), (.int 0), (.int (mI m5 668 49)), (.int 0)] m5 (fun o m7 => ∃ x9 : Int32, o = .inl (some (.int x9)) ∧ St m7 ∧ C m12_task [(.ref 668), (.int 1), (.int x9), (.int 0), (.int 0)] (mSetI m7 668 48 x9) (fun o m10 => o = .inl none ∧ St m10 ∧ V m12_run 80 [some (.ref 668)] [] m10 K))))) : V m12_run 0 [some (.ref 668)] [] m K := by
  refine r_aload_n (y := m12_run) dX12_run_0 rfl rfl ?_
  refine r_iconst (y := m12_run) (v := 0) dX12_run_1 (by decide) ?_
  refine p_X12_227 (y := m12_run) rfl dX12_run_2 hm ?_
  refine r_aload_n (y := m12_run) dX12_run_5 rfl rfl ?_
  refine r_iconst (y := m12_run) (v := 0) dX12_run_6 (by decide) ?_
  refine p_X12_230 (y := m12_run) rfl dX12_run_7 (St.i hm) ?_
  refine r_aload_n (y := m12_run) dX12_run_10 rfl rfl ?_
  refine r_iconst (y := m12_run) (v := 0) dX12_run_11 (by decide) ?_
  refine p_X12_239 (y := m12_run) rfl dX12_run_12 (St.i (St.i hm)) ?_
  refine r_aload_n (y := m12_run) dX12_run_15 rfl rfl ?_
  refine r_iconst (y := m12_run) (v := 0) dX12_run_16 (by decide) ?_
  refine p_X12_242 (y := m12_run) rfl dX12_run_17 (St.i (St.i (St.i hm))) ?_
  refine r_aload_n (y := m12_run) dX12_run_20 rfl rfl ?_
  refine r_iconst (y := m12_run) (v := 0) dX12_run_21 (by decide) ?_
  refine p_X12_251 (y := m12_run) rfl dX12_run_22 (St.i (St.i (St.i (St.i hm)))) ?_
  refine r_aload_n (y := m12_run) dX12_run_25 rfl rfl ?_
  refine g_X12_86 (y := m12_run) rfl dX12_run_26 (St.i (St.i (St.i (St.i (St.i hm))))) ?_
  refine r_iconst (y := m12_run) (v := 0) dX12_run_29 (by decide) ?_
  refine r_iconst (y := m12_run) (v := 0) dX12_run_30 (by decide) ?_
  obtain ⟨hb1, h⟩ := h
  refine r_iast (y := m12_run) (n := 110) dX12_run_31 (sa_694 (St.i (St.i (St.i (St.i (St.i hm)))))) hb1 ?_
  refine r_aload_n (y := m12_run) dX12_run_32 rfl rfl ?_
  refine r_iconst (y := m12_run) (v := 0) dX12_run_33 (by decide) ?_
  refine p_X12_245 (y := m12_run) rfl dX12_run_34 (St.i (St.i (St.i (St.i (St.i (St.i hm)))))) ?_
  refine r_aload_n (y := m12_run) dX12_run_37 rfl rfl ?_
  refine r_aload_n (y := m12_run) dX12_run_38 rfl rfl ?_
  refine r_callV (y := m12_run) (As := []) (b := 668) (ci := 12) dX12_run_39 rfl k12_newNames lm_X12_276 rfl ⟨by decide, by decide⟩ (so_668 (St.i (St.i (St.i (St.i (St.i (St.i (St.i hm)))))))) (by decide) rfl (Nat.le_of_ble_eq_true rfl) (C.mono h ?_)
  rintro _ m2 ⟨x4, rfl, hm3, h⟩
  refine ⟨_, rfl, ?_⟩
  refine p_X12_332 (y := m12_run) rfl dX12_run_42 hm3 ?_
  refine r_aload_n (y := m12_run) dX12_run_45 rfl rfl ?_
  refine r_iconst (y := m12_run) (v := 0) dX12_run_46 (by decide) ?_
  refine r_aload_n (y := m12_run) dX12_run_47 rfl rfl ?_
  refine g_X12_332 (y := m12_run) rfl dX12_run_48 (St.i hm3) ?_
  refine V.top (b := x4) (by first | rfl | simp [mI_set, mI_setR]) ?_
  refine r_iconst (y := m12_run) (v := 0) dX12_run_51 (by decide) ?_
  refine r_callV (y := m12_run) (As := [(.int 0), (.int x4), (.int 0)]) (b := 668) (ci := 12) dX12_run_52 rfl k12_opens lm_X12_292 rfl ⟨by decide, by decide⟩ (so_668 (St.i hm3)) (by decide) rfl (Nat.le_of_ble_eq_true rfl) (C.mono h ?_)
  rintro _ m5 ⟨rfl, hm6, h⟩
  refine ⟨none, rfl, ?_⟩
  refine r_aload_n (y := m12_run) dX12_run_55 rfl rfl ?_
  refine r_aload_n (y := m12_run) dX12_run_56 rfl rfl ?_
  refine r_iconst (y := m12_run) (v := 0) dX12_run_57 (by decide) ?_
  refine r_aload_n (y := m12_run) dX12_run_58 rfl rfl ?_
  refine g_X12_332 (y := m12_run) rfl dX12_run_59 hm6 ?_
  refine r_iconst (y := m12_run) (v := 0) dX12_run_62 (by decide) ?_
  refine r_callV (y := m12_run) (As := [(.int 0), (.int (mI m5 668 49)), (.int 0)]) (b := 668) (ci := 12) dX12_run_63 rfl k12_make lm_X12_257 rfl ⟨by decide, by decide⟩ (so_668 hm6) (by decide) rfl (Nat.le_of_ble_eq_true rfl) (C.mono h ?_)
  rintro _ m7 ⟨x9, rfl, hm8, h⟩
  refine ⟨_, rfl, ?_⟩
  refine p_X12_335 (y := m12_run) rfl dX12_run_66 hm8 ?_
  refine r_aload_n (y := m12_run) dX12_run_69 rfl rfl ?_
  refine r_iconst (y := m12_run) (v := 1) dX12_run_70 (by decide) ?_
  refine r_aload_n (y := m12_run) dX12_run_71 rfl rfl ?_
  refine g_X12_335 (y := m12_run) rfl dX12_run_72 (St.i hm8) ?_
  refine V.top (b := x9) (by first | rfl | simp [mI_set, mI_setR]) ?_
  refine r_iconst (y := m12_run) (v := 0) dX12_run_75 (by decide) ?_
  refine r_iconst (y := m12_run) (v := 0) dX12_run_76 (by decide) ?_
  refine r_callV (y := m12_run) (As := [(.int 1), (.int x9), (.int 0), (.int 0)]) (b := 668) (ci := 12) dX12_run_77 rfl k12_task lm_X12_260 rfl ⟨by decide, by decide⟩ (so_668 (St.i hm8)) (by decide) rfl (Nat.le_of_ble_eq_true rfl) (C.mono h ?_)
  rintro _ m10 ⟨rfl, hm11, h⟩
  refine ⟨none, rfl, ?_⟩
  exact h
set_option maxHeartbeats 4000000 in
set_option maxRecDepth 100000 in
theorem w12_run_80 {m : Mm} {K : Option Value ⊕ String → Mm → Prop} (hm : St m)   (h : (((mI m 668 24) ≤ 0 → ((¬ (mI m 668 29) = 0 → K (.inl none) (mSetI m 668 29 (mI m 668 29))) ∧ ((mI m 668 29) = 0 → K (.inl none) (mSetI m 668 29 1)))) ∧ (¬ (mI m 668 24) ≤ 0 → ((¬ (mI m 668 29) = 0 → ((¬ (mI m 668 29) = 0 → K (.inl none) (mSetI m 668 29 (mI m 668 29))) ∧ ((mI m 668 29) = 0 → K (.inl none) (mSetI m 668 29 1)))) ∧ ((mI m 668 29) = 0 → vp_in ((mI m 668 24) - 1) 20000 ∧ vp_in ((mI m 668 24) - 1) 20000 ∧ vp_in ((mI m 668 24) - 1) 20000 ∧ vp_in ((mI m 668 24) - 1) 20000 ∧ C m12_does [(.ref 668), (.int (mI m 686 (Int32.toNatClampNeg ((mI m 668 24) - 1)))), (.int (mI m 687 (Int32.toNatClampNeg ((mI m 668 24) - 1)))), (.int (mI m 688 (Int32.toNatClampNeg ((mI m 668 24) - 1)))), (.int (mI m 689 (Int32.toNatClampNeg ((mI m 668 24) - 1))))] (mSetI m 668 24 ((mI m 668 24) - 1)) (fun o m9 => o = .inl none ∧ St m9 ∧ V m12_run 80 [some (.ref 668)] [] m9 K)))))) : V m12_run 80 [some (.ref 668)] [] m K := by
  refine r_aload_n (y := m12_run) dX12_run_80 rfl rfl ?_
  refine g_X12_239 (y := m12_run) rfl dX12_run_81 hm ?_
  refine r_if_le (y := m12_run) (tgt := 147) dX12_run_84 (by decide) (fun hc1 => ?_) (fun hc1 => ?_)
  · have h := h.1 hc1
    refine r_aload_n (y := m12_run) dX12_run_147 rfl rfl ?_
    refine r_aload_n (y := m12_run) dX12_run_148 rfl rfl ?_
    refine g_X12_245 (y := m12_run) rfl dX12_run_149 hm ?_
    refine r_if_ne (y := m12_run) (tgt := 159) dX12_run_152 (by decide) (fun hc2 => ?_) (fun hc2 => ?_)
    · have h := h.1 hc2
      refine r_aload_n (y := m12_run) dX12_run_159 rfl rfl ?_
      refine g_X12_245 (y := m12_run) rfl dX12_run_160 hm ?_
      refine p_X12_245 (y := m12_run) rfl dX12_run_163 hm ?_
      exact r_ret (y := m12_run) dX12_run_166 rfl h
    · have h := h.2 hc2
      refine r_iconst (y := m12_run) (v := 1) dX12_run_155 (by decide) ?_
      refine r_goto (y := m12_run) (tgt := 163) dX12_run_156 (by decide) ?_
      refine p_X12_245 (y := m12_run) rfl dX12_run_163 hm ?_
      exact r_ret (y := m12_run) dX12_run_166 rfl h
  · have h := h.2 hc1
    refine r_aload_n (y := m12_run) dX12_run_87 rfl rfl ?_
    refine g_X12_245 (y := m12_run) rfl dX12_run_88 hm ?_
    refine r_if_ne (y := m12_run) (tgt := 147) dX12_run_91 (by decide) (fun hc3 => ?_) (fun hc3 => ?_)
    · have h := h.1 hc3
      refine r_aload_n (y := m12_run) dX12_run_147 rfl rfl ?_
      refine r_aload_n (y := m12_run) dX12_run_148 rfl rfl ?_
      refine g_X12_245 (y := m12_run) rfl dX12_run_149 hm ?_
      refine r_if_ne (y := m12_run) (tgt := 159) dX12_run_152 (by decide) (fun hc4 => ?_) (fun hc4 => ?_)
      · have h := h.1 hc4
        refine r_aload_n (y := m12_run) dX12_run_159 rfl rfl ?_
        refine g_X12_245 (y := m12_run) rfl dX12_run_160 hm ?_
        refine p_X12_245 (y := m12_run) rfl dX12_run_163 hm ?_
        exact r_ret (y := m12_run) dX12_run_166 rfl h
      · have h := h.2 hc4
        refine r_iconst (y := m12_run) (v := 1) dX12_run_155 (by decide) ?_
        refine r_goto (y := m12_run) (tgt := 163) dX12_run_156 (by decide) ?_
        refine p_X12_245 (y := m12_run) rfl dX12_run_163 hm ?_
        exact r_ret (y := m12_run) dX12_run_166 rfl h
    · have h := h.2 hc3
      refine r_aload_n (y := m12_run) dX12_run_94 rfl rfl ?_
      refine r_dup_r (y := m12_run) dX12_run_95 ?_
      refine g_X12_239 (y := m12_run) rfl dX12_run_96 hm ?_
      refine r_iconst (y := m12_run) (v := 1) dX12_run_99 (by decide) ?_
      refine r_isub (y := m12_run) dX12_run_100 ?_
      refine p_X12_239 (y := m12_run) rfl dX12_run_101 hm ?_
      refine r_aload_n (y := m12_run) dX12_run_104 rfl rfl ?_
      refine r_aload_n (y := m12_run) dX12_run_105 rfl rfl ?_
      refine g_X12_62 (y := m12_run) rfl dX12_run_106 (St.i hm) ?_
      refine r_aload_n (y := m12_run) dX12_run_109 rfl rfl ?_
      refine g_X12_239 (y := m12_run) rfl dX12_run_110 (St.i hm) ?_
      refine V.top (b := ((mI m 668 24) - 1)) (by first | rfl | simp [mI_set, mI_setR]) ?_
      obtain ⟨hb5, h⟩ := h
      refine r_iald (y := m12_run) (n := 20000) dX12_run_113 (sa_686 (St.i hm)) hb5 ?_
      refine V.top (b := (mI m 686 (Int32.toNatClampNeg ((mI m 668 24) - 1)))) (by first | rfl | simp [mI_set, mI_setR]) ?_
      refine r_aload_n (y := m12_run) dX12_run_114 rfl rfl ?_
      refine g_X12_65 (y := m12_run) rfl dX12_run_115 (St.i hm) ?_
      refine r_aload_n (y := m12_run) dX12_run_118 rfl rfl ?_
      refine g_X12_239 (y := m12_run) rfl dX12_run_119 (St.i hm) ?_
      refine V.top (b := ((mI m 668 24) - 1)) (by first | rfl | simp [mI_set, mI_setR]) ?_
      obtain ⟨hb6, h⟩ := h
      refine r_iald (y := m12_run) (n := 20000) dX12_run_122 (sa_687 (St.i hm)) hb6 ?_
      refine V.top (b := (mI m 687 (Int32.toNatClampNeg ((mI m 668 24) - 1)))) (by first | rfl | simp [mI_set, mI_setR]) ?_
      refine r_aload_n (y := m12_run) dX12_run_123 rfl rfl ?_
      refine g_X12_68 (y := m12_run) rfl dX12_run_124 (St.i hm) ?_
      refine r_aload_n (y := m12_run) dX12_run_127 rfl rfl ?_
      refine g_X12_239 (y := m12_run) rfl dX12_run_128 (St.i hm) ?_
      refine V.top (b := ((mI m 668 24) - 1)) (by first | rfl | simp [mI_set, mI_setR]) ?_
      obtain ⟨hb7, h⟩ := h
      refine r_iald (y := m12_run) (n := 20000) dX12_run_131 (sa_688 (St.i hm)) hb7 ?_
      refine V.top (b := (mI m 688 (Int32.toNatClampNeg ((mI m 668 24) - 1)))) (by first | rfl | simp [mI_set, mI_setR]) ?_
      refine r_aload_n (y := m12_run) dX12_run_132 rfl rfl ?_
      refine g_X12_71 (y := m12_run) rfl dX12_run_133 (St.i hm) ?_
      refine r_aload_n (y := m12_run) dX12_run_136 rfl rfl ?_
      refine g_X12_239 (y := m12_run) rfl dX12_run_137 (St.i hm) ?_
      refine V.top (b := ((mI m 668 24) - 1)) (by first | rfl | simp [mI_set, mI_setR]) ?_
      obtain ⟨hb8, h⟩ := h
      refine r_iald (y := m12_run) (n := 20000) dX12_run_140 (sa_689 (St.i hm)) hb8 ?_
      refine V.top (b := (mI m 689 (Int32.toNatClampNeg ((mI m 668 24) - 1)))) (by first | rfl | simp [mI_set, mI_setR]) ?_
      refine r_callV (y := m12_run) (As := [(.int (mI m 686 (Int32.toNatClampNeg ((mI m 668 24) - 1)))), (.int (mI m 687 (Int32.toNatClampNeg ((mI m 668 24) - 1)))), (.int (mI m 688 (Int32.toNatClampNeg ((mI m 668 24) - 1)))), (.int (mI m 689 (Int32.toNatClampNeg ((mI m 668 24) - 1))))]) (b := 668) (ci := 12) dX12_run_141 rfl k12_does lm_X12_338 rfl ⟨by decide, by decide⟩ (so_668 (St.i hm)) (by decide) rfl (Nat.le_of_ble_eq_true rfl) (C.mono h ?_)
      rintro _ m9 ⟨rfl, hm10, h⟩
      refine ⟨none, rfl, ?_⟩
      refine r_goto (y := m12_run) (tgt := 80) dX12_run_144 (by decide) ?_
      exact h
set_option maxHeartbeats 4000000 in
set_option maxRecDepth 100000 in
theorem w12_tell {m : Mm} {K : Option Value ⊕ String → Mm → Prop} (hm : St m) {a0 : Int32} {a1 : Int32}  (h : ((a1 = (-1) → V m12_tell 22 [some (.ref 668), some (.int a0), some (.int a1), some (.int 0), some (.int 0), some (.int 0), none, none, none] [] m K) ∧ (¬ a1 = (-1) → vp_in 0 6000 ∧ V m12_tell 22 [some (.ref 668), some (.int a0), some (.int a1), some (.int 1), some (.int 0), some (.int 0), none, none, none] [] (mSetI m 702 0 a1) K))) : V m12_tell 0 [some (.ref 668), some (.int a0), some (.int a1), none, none, none, none, none, none] [] m K := by
  refine r_iconst (y := m12_tell) (v := 0) dX12_tell_0 (by decide) ?_
  refine r_istore_n (y := m12_tell) (L' := [some (.ref 668), some (.int a0), some (.int a1), some (.int 0), none, none, none, none, none]) dX12_tell_1 rfl (Nat.le_of_ble_eq_true rfl) rfl ?_
  refine r_iconst (y := m12_tell) (v := 0) dX12_tell_2 (by decide) ?_
  refine r_istore (y := m12_tell) (L' := [some (.ref 668), some (.int a0), some (.int a1), some (.int 0), some (.int 0), none, none, none, none]) dX12_tell_3 (Nat.le_of_ble_eq_true rfl) rfl ?_
  refine r_iconst (y := m12_tell) (v := 0) dX12_tell_5 (by decide) ?_
  refine r_istore (y := m12_tell) (L' := [some (.ref 668), some (.int a0), some (.int a1), some (.int 0), some (.int 0), some (.int 0), none, none, none]) dX12_tell_6 (Nat.le_of_ble_eq_true rfl) rfl ?_
  refine r_iload_n (y := m12_tell) dX12_tell_8 rfl rfl ?_
  refine r_iconst (y := m12_tell) (v := (-1)) dX12_tell_9 (by decide) ?_
  refine r_icmp_eq (y := m12_tell) (tgt := 22) dX12_tell_10 (by decide) (fun hc1 => ?_) (fun hc1 => ?_)
  · have h := h.1 hc1
    exact h
  · have h := h.2 hc1
    refine r_aload_n (y := m12_tell) dX12_tell_13 rfl rfl ?_
    refine g_X12_110 (y := m12_tell) rfl dX12_tell_14 hm ?_
    refine r_iconst (y := m12_tell) (v := 0) dX12_tell_17 (by decide) ?_
    refine r_iload_n (y := m12_tell) dX12_tell_18 rfl rfl ?_
    obtain ⟨hb2, h⟩ := h
    refine r_iast (y := m12_tell) (n := 6000) dX12_tell_19 (sa_702 hm) hb2 ?_
    refine r_iconst (y := m12_tell) (v := 1) dX12_tell_20 (by decide) ?_
    refine r_istore_n (y := m12_tell) (L' := [some (.ref 668), some (.int a0), some (.int a1), some (.int 1), some (.int 0), some (.int 0), none, none, none]) dX12_tell_21 rfl (Nat.le_of_ble_eq_true rfl) rfl ?_
    exact h
set_option maxHeartbeats 4000000 in
set_option maxRecDepth 100000 in
theorem w12_tell_22 {m : Mm} {K : Option Value ⊕ String → Mm → Prop} (hm : St m) {v1 : Int32} {v2 : Int32} {v3 : Int32} {v4 : Int32} {v5 : Int32}  (h : ((v3 ≤ 0 → V m12_tell 205 [some (.ref 668), some (.int v1), some (.int v2), some (.int v3), some (.int v4), some (.int v5), none, none, none] [] m K) ∧ (¬ v3 ≤ 0 → ((40 ≤ v5 → V m12_tell 205 [some (.ref 668), some (.int v1), some (.int v2), some (.int v3), some (.int v4), some (.int v5), none, none, none] [] m K) ∧ (¬ 40 ≤ v5 → vp_in (v3 + (-1)) 6000 ∧ C m12_root [(.ref 668), (.int (mI m 702 (Int32.toNatClampNeg (v3 + (-1)))))] m (fun o m4 => ∃ x6 : Int32, o = .inl (some (.int x6)) ∧ St m4 ∧ vp_in x6 6000 ∧ vp_in x6 6000 ∧ ((¬ (mI m4 677 (Int32.toNatClampNeg x6)) = 0 → vp_in x6 6000 ∧ (((mI m4 680 (Int32.toNatClampNeg x6)) = (-1) → V m12_tell 158 [some (.ref 668), some (.int v1), some (.int v2), some (.int (v3 + (-1))), some (.int v4), some (.int v5), some (.int x6), some (.int (mI m4 678 (Int32.toNatClampNeg x6))), none] [] m4 K) ∧ (¬ (mI m4 680 (Int32.toNatClampNeg x6)) = (-1) → vp_in x6 6000 ∧ vp_in (v3 + (-1)) 6000 ∧ V m12_tell 158 [some (.ref 668), some (.int v1), some (.int v2), some (.int ((v3 + (-1)) + 1)), some (.int v4), some (.int v5), some (.int x6), some (.int (mI m4 678 (Int32.toNatClampNeg x6))), none] [] (mSetI m4 702 (Int32.toNatClampNeg (v3 + (-1))) (mI m4 680 (Int32.toNatClampNeg x6))) K))) ∧ ((mI m4 677 (Int32.toNatClampNeg x6)) = 0 → V m12_tell 70 [some (.ref 668), some (.int v1), some (.int v2), some (.int (v3 + (-1))), some (.int v4), some (.int v5), some (.int x6), some (.int (mI m4 678 (Int32.toNatClampNeg x6))), some (.int 0)] [] m4 K)))))))) : V m12_tell 22 [some (.ref 668), some (.int v1), some (.int v2), some (.int v3), some (.int v4), some (.int v5), none, none, none] [] m K := by
  refine r_iload_n (y := m12_tell) dX12_tell_22 rfl rfl ?_
  refine r_if_le (y := m12_tell) (tgt := 205) dX12_tell_23 (by decide) (fun hc1 => ?_) (fun hc1 => ?_)
  · have h := h.1 hc1
    exact h
  · have h := h.2 hc1
    refine r_iload (y := m12_tell) dX12_tell_26 rfl ?_
    refine r_bipush (y := m12_tell) (v := 40) dX12_tell_28 (by decide) ?_
    refine r_icmp_ge (y := m12_tell) (tgt := 205) dX12_tell_30 (by decide) (fun hc2 => ?_) (fun hc2 => ?_)
    · have h := h.1 hc2
      exact h
    · have h := h.2 hc2
      refine r_iinc (y := m12_tell) (v := (v3 + (-1))) (L' := [some (.ref 668), some (.int v1), some (.int v2), some (.int (v3 + (-1))), some (.int v4), some (.int v5), none, none, none]) dX12_tell_33 rfl (by rfl) rfl ?_
      refine r_aload_n (y := m12_tell) dX12_tell_36 rfl rfl ?_
      refine r_aload_n (y := m12_tell) dX12_tell_37 rfl rfl ?_
      refine g_X12_110 (y := m12_tell) rfl dX12_tell_38 hm ?_
      refine r_iload_n (y := m12_tell) dX12_tell_41 rfl rfl ?_
      obtain ⟨hb3, h⟩ := h
      refine r_iald (y := m12_tell) (n := 6000) dX12_tell_42 (sa_702 hm) hb3 ?_
      refine r_callV (y := m12_tell) (As := [(.int (mI m 702 (Int32.toNatClampNeg (v3 + (-1)))))]) (b := 668) (ci := 12) dX12_tell_43 rfl k12_root lm_X12_280 rfl ⟨by decide, by decide⟩ (so_668 hm) (by decide) rfl (Nat.le_of_ble_eq_true rfl) (C.mono h ?_)
      rintro _ m4 ⟨x6, rfl, hm5, h⟩
      refine ⟨_, rfl, ?_⟩
      refine r_istore (y := m12_tell) (L' := [some (.ref 668), some (.int v1), some (.int v2), some (.int (v3 + (-1))), some (.int v4), some (.int v5), some (.int x6), none, none]) dX12_tell_46 (Nat.le_of_ble_eq_true rfl) rfl ?_
      refine r_aload_n (y := m12_tell) dX12_tell_48 rfl rfl ?_
      refine g_X12_38 (y := m12_tell) rfl dX12_tell_49 hm5 ?_
      refine r_iload (y := m12_tell) dX12_tell_52 rfl ?_
      obtain ⟨hb7, h⟩ := h
      refine r_iald (y := m12_tell) (n := 6000) dX12_tell_54 (sa_678 hm5) hb7 ?_
      refine r_istore (y := m12_tell) (L' := [some (.ref 668), some (.int v1), some (.int v2), some (.int (v3 + (-1))), some (.int v4), some (.int v5), some (.int x6), some (.int (mI m4 678 (Int32.toNatClampNeg x6))), none]) dX12_tell_55 (Nat.le_of_ble_eq_true rfl) rfl ?_
      refine r_aload_n (y := m12_tell) dX12_tell_57 rfl rfl ?_
      refine g_X12_35 (y := m12_tell) rfl dX12_tell_58 hm5 ?_
      refine r_iload (y := m12_tell) dX12_tell_61 rfl ?_
      obtain ⟨hb8, h⟩ := h
      refine r_iald (y := m12_tell) (n := 6000) dX12_tell_63 (sa_677 hm5) hb8 ?_
      refine r_if_ne (y := m12_tell) (tgt := 131) dX12_tell_64 (by decide) (fun hc9 => ?_) (fun hc9 => ?_)
      · have h := h.1 hc9
        refine r_aload_n (y := m12_tell) dX12_tell_131 rfl rfl ?_
        refine g_X12_44 (y := m12_tell) rfl dX12_tell_132 hm5 ?_
        refine r_iload (y := m12_tell) dX12_tell_135 rfl ?_
        obtain ⟨hb10, h⟩ := h
        refine r_iald (y := m12_tell) (n := 6000) dX12_tell_137 (sa_680 hm5) hb10 ?_
        refine r_iconst (y := m12_tell) (v := (-1)) dX12_tell_138 (by decide) ?_
        refine r_icmp_eq (y := m12_tell) (tgt := 158) dX12_tell_139 (by decide) (fun hc11 => ?_) (fun hc11 => ?_)
        · have h := h.1 hc11
          exact h
        · have h := h.2 hc11
          refine r_aload_n (y := m12_tell) dX12_tell_142 rfl rfl ?_
          refine g_X12_110 (y := m12_tell) rfl dX12_tell_143 hm5 ?_
          refine r_iload_n (y := m12_tell) dX12_tell_146 rfl rfl ?_
          refine r_aload_n (y := m12_tell) dX12_tell_147 rfl rfl ?_
          refine g_X12_44 (y := m12_tell) rfl dX12_tell_148 hm5 ?_
          refine r_iload (y := m12_tell) dX12_tell_151 rfl ?_
          obtain ⟨hb12, h⟩ := h
          refine r_iald (y := m12_tell) (n := 6000) dX12_tell_153 (sa_680 hm5) hb12 ?_
          obtain ⟨hb13, h⟩ := h
          refine r_iast (y := m12_tell) (n := 6000) dX12_tell_154 (sa_702 hm5) hb13 ?_
          refine r_iinc (y := m12_tell) (v := ((v3 + (-1)) + 1)) (L' := [some (.ref 668), some (.int v1), some (.int v2), some (.int ((v3 + (-1)) + 1)), some (.int v4), some (.int v5), some (.int x6), some (.int (mI m4 678 (Int32.toNatClampNeg x6))), none]) dX12_tell_155 rfl (by rfl) rfl ?_
          exact h
      · have h := h.2 hc9
        refine r_iconst (y := m12_tell) (v := 0) dX12_tell_67 (by decide) ?_
        refine r_istore (y := m12_tell) (L' := [some (.ref 668), some (.int v1), some (.int v2), some (.int (v3 + (-1))), some (.int v4), some (.int v5), some (.int x6), some (.int (mI m4 678 (Int32.toNatClampNeg x6))), some (.int 0)]) dX12_tell_68 (Nat.le_of_ble_eq_true rfl) rfl ?_
        exact h
set_option maxHeartbeats 4000000 in
set_option maxRecDepth 100000 in
theorem w12_tell_205 {m : Mm} {K : Option Value ⊕ String → Mm → Prop} (hm : St m) {v1 : Int32} {v2 : Int32} {v3 : Int32} {v4 : Int32} {v5 : Int32}  (h : vp_in v1 70 ∧ K (.inl none) (mSetI m 703 (Int32.toNatClampNeg v1) v5)) : V m12_tell 205 [some (.ref 668), some (.int v1), some (.int v2), some (.int v3), some (.int v4), some (.int v5), none, none, none] [] m K := by
  refine r_aload_n (y := m12_tell) dX12_tell_205 rfl rfl ?_
  refine g_X12_113 (y := m12_tell) rfl dX12_tell_206 hm ?_
  refine r_iload_n (y := m12_tell) dX12_tell_209 rfl rfl ?_
  refine r_iload (y := m12_tell) dX12_tell_210 rfl ?_
  obtain ⟨hb1, h⟩ := h
  refine r_iast (y := m12_tell) (n := 70) dX12_tell_212 (sa_703 hm) hb1 ?_
  exact r_ret (y := m12_tell) dX12_tell_213 rfl h
set_option maxHeartbeats 4000000 in
set_option maxRecDepth 100000 in
theorem w12_tell_158 {m : Mm} {K : Option Value ⊕ String → Mm → Prop} (hm : St m) {v1 : Int32} {v2 : Int32} {v3 : Int32} {v4 : Int32} {v5 : Int32} {v6 : Int32} {v7 : Int32}  (h : vp_in v6 6000 ∧ (((mI m 679 (Int32.toNatClampNeg v6)) = (-1) → V m12_tell 185 [some (.ref 668), some (.int v1), some (.int v2), some (.int v3), some (.int v4), some (.int v5), some (.int v6), some (.int v7), none] [] m K) ∧ (¬ (mI m 679 (Int32.toNatClampNeg v6)) = (-1) → vp_in v6 6000 ∧ vp_in v3 6000 ∧ V m12_tell 185 [some (.ref 668), some (.int v1), some (.int v2), some (.int (v3 + 1)), some (.int v4), some (.int v5), some (.int v6), some (.int v7), none] [] (mSetI m 702 (Int32.toNatClampNeg v3) (mI m 679 (Int32.toNatClampNeg v6))) K))) : V m12_tell 158 [some (.ref 668), some (.int v1), some (.int v2), some (.int v3), some (.int v4), some (.int v5), some (.int v6), some (.int v7), none] [] m K := by
  refine r_aload_n (y := m12_tell) dX12_tell_158 rfl rfl ?_
  refine g_X12_41 (y := m12_tell) rfl dX12_tell_159 hm ?_
  refine r_iload (y := m12_tell) dX12_tell_162 rfl ?_
  obtain ⟨hb1, h⟩ := h
  refine r_iald (y := m12_tell) (n := 6000) dX12_tell_164 (sa_679 hm) hb1 ?_
  refine r_iconst (y := m12_tell) (v := (-1)) dX12_tell_165 (by decide) ?_
  refine r_icmp_eq (y := m12_tell) (tgt := 185) dX12_tell_166 (by decide) (fun hc2 => ?_) (fun hc2 => ?_)
  · have h := h.1 hc2
    exact h
  · have h := h.2 hc2
    refine r_aload_n (y := m12_tell) dX12_tell_169 rfl rfl ?_
    refine g_X12_110 (y := m12_tell) rfl dX12_tell_170 hm ?_
    refine r_iload_n (y := m12_tell) dX12_tell_173 rfl rfl ?_
    refine r_aload_n (y := m12_tell) dX12_tell_174 rfl rfl ?_
    refine g_X12_41 (y := m12_tell) rfl dX12_tell_175 hm ?_
    refine r_iload (y := m12_tell) dX12_tell_178 rfl ?_
    obtain ⟨hb3, h⟩ := h
    refine r_iald (y := m12_tell) (n := 6000) dX12_tell_180 (sa_679 hm) hb3 ?_
    obtain ⟨hb4, h⟩ := h
    refine r_iast (y := m12_tell) (n := 6000) dX12_tell_181 (sa_702 hm) hb4 ?_
    refine r_iinc (y := m12_tell) (v := (v3 + 1)) (L' := [some (.ref 668), some (.int v1), some (.int v2), some (.int (v3 + 1)), some (.int v4), some (.int v5), some (.int v6), some (.int v7), none]) dX12_tell_182 rfl (by rfl) rfl ?_
    exact h
set_option maxHeartbeats 4000000 in
set_option maxRecDepth 100000 in
theorem w12_tell_70 {m : Mm} {K : Option Value ⊕ String → Mm → Prop} (hm : St m) {v1 : Int32} {v2 : Int32} {v3 : Int32} {v4 : Int32} {v5 : Int32} {v6 : Int32} {v7 : Int32} {v8 : Int32}  (h : ((v4 ≤ v8 → V m12_tell 95 [some (.ref 668), some (.int v1), some (.int v2), some (.int v3), some (.int v4), some (.int v5), some (.int v6), some (.int v7), some (.int v8)] [] m K) ∧ (¬ v4 ≤ v8 → vp_in v8 40 ∧ (((mI m 712 (Int32.toNatClampNeg v8)) = v6 → V m12_tell 95 [some (.ref 668), some (.int v1), some (.int v2), some (.int v3), some (.int v4), some (.int v5), some (.int v6), some (.int v7), some (.int v8)] [] m K) ∧ (¬ (mI m 712 (Int32.toNatClampNeg v8)) = v6 → V m12_tell 70 [some (.ref 668), some (.int v1), some (.int v2), some (.int v3), some (.int v4), some (.int v5), some (.int v6), some (.int v7), some (.int (v8 + 1))] [] m K))))) : V m12_tell 70 [some (.ref 668), some (.int v1), some (.int v2), some (.int v3), some (.int v4), some (.int v5), some (.int v6), some (.int v7), some (.int v8)] [] m K := by
  refine r_iload (y := m12_tell) dX12_tell_70 rfl ?_
  refine r_iload (y := m12_tell) dX12_tell_72 rfl ?_
  refine r_icmp_ge (y := m12_tell) (tgt := 95) dX12_tell_74 (by decide) (fun hc1 => ?_) (fun hc1 => ?_)
  · have h := h.1 hc1
    exact h
  · have h := h.2 hc1
    refine r_aload_n (y := m12_tell) dX12_tell_77 rfl rfl ?_
    refine g_X12_141 (y := m12_tell) rfl dX12_tell_78 hm ?_
    refine r_iload (y := m12_tell) dX12_tell_81 rfl ?_
    obtain ⟨hb2, h⟩ := h
    refine r_iald (y := m12_tell) (n := 40) dX12_tell_83 (sa_712 hm) hb2 ?_
    refine r_iload (y := m12_tell) dX12_tell_84 rfl ?_
    refine r_icmp_eq (y := m12_tell) (tgt := 95) dX12_tell_86 (by decide) (fun hc3 => ?_) (fun hc3 => ?_)
    · have h := h.1 hc3
      exact h
    · have h := h.2 hc3
      refine r_iinc (y := m12_tell) (v := (v8 + 1)) (L' := [some (.ref 668), some (.int v1), some (.int v2), some (.int v3), some (.int v4), some (.int v5), some (.int v6), some (.int v7), some (.int (v8 + 1))]) dX12_tell_89 rfl (by rfl) rfl ?_
      refine r_goto (y := m12_tell) (tgt := 70) dX12_tell_92 (by decide) ?_
      exact h
set_option maxHeartbeats 4000000 in
set_option maxRecDepth 100000 in
theorem w12_tell_185 {m : Mm} {K : Option Value ⊕ String → Mm → Prop} (hm : St m) {v1 : Int32} {v2 : Int32} {v3 : Int32} {v4 : Int32} {v5 : Int32} {v6 : Int32} {v7 : Int32}  (h : vp_in ((40 * v1) + v5) 2800 ∧ V m12_tell 22 [some (.ref 668), some (.int v1), some (.int v2), some (.int v3), some (.int v4), some (.int (v5 + 1)), some (.int v6), some (.int v7), none] [] (mSetI m 704 (Int32.toNatClampNeg ((40 * v1) + v5)) v7) K) : V m12_tell 185 [some (.ref 668), some (.int v1), some (.int v2), some (.int v3), some (.int v4), some (.int v5), some (.int v6), some (.int v7), none] [] m K := by
  refine r_aload_n (y := m12_tell) dX12_tell_185 rfl rfl ?_
  refine g_X12_116 (y := m12_tell) rfl dX12_tell_186 hm ?_
  refine r_bipush (y := m12_tell) (v := 40) dX12_tell_189 (by decide) ?_
  refine r_iload_n (y := m12_tell) dX12_tell_191 rfl rfl ?_
  refine r_imul (y := m12_tell) dX12_tell_192 ?_
  refine r_iload (y := m12_tell) dX12_tell_193 rfl ?_
  refine r_iadd (y := m12_tell) dX12_tell_195 ?_
  refine r_iload (y := m12_tell) dX12_tell_196 rfl ?_
  obtain ⟨hb1, h⟩ := h
  refine r_iast (y := m12_tell) (n := 2800) dX12_tell_198 (sa_704 hm) hb1 ?_
  refine r_iinc (y := m12_tell) (v := (v5 + 1)) (L' := [some (.ref 668), some (.int v1), some (.int v2), some (.int v3), some (.int v4), some (.int (v5 + 1)), some (.int v6), some (.int v7), none]) dX12_tell_199 rfl (by rfl) rfl ?_
  refine r_goto (y := m12_tell) (tgt := 22) dX12_tell_202 (by decide) ?_
  exact h
set_option maxHeartbeats 4000000 in
set_option maxRecDepth 100000 in
theorem w12_tell_95 {m : Mm} {K : Option Value ⊕ String → Mm → Prop} (hm : St m) {v1 : Int32} {v2 : Int32} {v3 : Int32} {v4 : Int32} {v5 : Int32} {v6 : Int32} {v7 : Int32} {v8 : Int32}  (h : vp_in v8 40 ∧ ((¬ v8 = v4 → V m12_tell 185 [some (.ref 668), some (.int v1), some (.int v2), some (.int v3), some (.int (v4 + 0)), some (.int v5), some (.int v6), some (.int (10 + v8)), some (.int v8)] [] (mSetI m 712 (Int32.toNatClampNeg v8) v6) K) ∧ (v8 = v4 → V m12_tell 185 [some (.ref 668), some (.int v1), some (.int v2), some (.int v3), some (.int (v4 + 1)), some (.int v5), some (.int v6), some (.int (10 + v8)), some (.int v8)] [] (mSetI m 712 (Int32.toNatClampNeg v8) v6) K))) : V m12_tell 95 [some (.ref 668), some (.int v1), some (.int v2), some (.int v3), some (.int v4), some (.int v5), some (.int v6), some (.int v7), some (.int v8)] [] m K := by
  refine r_aload_n (y := m12_tell) dX12_tell_95 rfl rfl ?_
  refine g_X12_141 (y := m12_tell) rfl dX12_tell_96 hm ?_
  refine r_iload (y := m12_tell) dX12_tell_99 rfl ?_
  refine r_iload (y := m12_tell) dX12_tell_101 rfl ?_
  obtain ⟨hb1, h⟩ := h
  refine r_iast (y := m12_tell) (n := 40) dX12_tell_103 (sa_712 hm) hb1 ?_
  refine r_iload (y := m12_tell) dX12_tell_104 rfl ?_
  refine r_iload (y := m12_tell) dX12_tell_106 rfl ?_
  refine r_iload (y := m12_tell) dX12_tell_108 rfl ?_
  refine r_icmp_ne (y := m12_tell) (tgt := 117) dX12_tell_110 (by decide) (fun hc2 => ?_) (fun hc2 => ?_)
  · have h := h.1 hc2
    refine r_iconst (y := m12_tell) (v := 0) dX12_tell_117 (by decide) ?_
    refine r_iadd (y := m12_tell) dX12_tell_118 ?_
    refine r_istore (y := m12_tell) (L' := [some (.ref 668), some (.int v1), some (.int v2), some (.int v3), some (.int (v4 + 0)), some (.int v5), some (.int v6), some (.int v7), some (.int v8)]) dX12_tell_119 (Nat.le_of_ble_eq_true rfl) rfl ?_
    refine r_bipush (y := m12_tell) (v := 10) dX12_tell_121 (by decide) ?_
    refine r_iload (y := m12_tell) dX12_tell_123 rfl ?_
    refine r_iadd (y := m12_tell) dX12_tell_125 ?_
    refine r_istore (y := m12_tell) (L' := [some (.ref 668), some (.int v1), some (.int v2), some (.int v3), some (.int (v4 + 0)), some (.int v5), some (.int v6), some (.int (10 + v8)), some (.int v8)]) dX12_tell_126 (Nat.le_of_ble_eq_true rfl) rfl ?_
    refine r_goto (y := m12_tell) (tgt := 185) dX12_tell_128 (by decide) ?_
    exact h
  · have h := h.2 hc2
    refine r_iconst (y := m12_tell) (v := 1) dX12_tell_113 (by decide) ?_
    refine r_goto (y := m12_tell) (tgt := 118) dX12_tell_114 (by decide) ?_
    refine r_iadd (y := m12_tell) dX12_tell_118 ?_
    refine r_istore (y := m12_tell) (L' := [some (.ref 668), some (.int v1), some (.int v2), some (.int v3), some (.int (v4 + 1)), some (.int v5), some (.int v6), some (.int v7), some (.int v8)]) dX12_tell_119 (Nat.le_of_ble_eq_true rfl) rfl ?_
    refine r_bipush (y := m12_tell) (v := 10) dX12_tell_121 (by decide) ?_
    refine r_iload (y := m12_tell) dX12_tell_123 rfl ?_
    refine r_iadd (y := m12_tell) dX12_tell_125 ?_
    refine r_istore (y := m12_tell) (L' := [some (.ref 668), some (.int v1), some (.int v2), some (.int v3), some (.int (v4 + 1)), some (.int v5), some (.int v6), some (.int (10 + v8)), some (.int v8)]) dX12_tell_126 (Nat.le_of_ble_eq_true rfl) rfl ?_
    refine r_goto (y := m12_tell) (tgt := 185) dX12_tell_128 (by decide) ?_
    exact h
set_option maxHeartbeats 4000000 in
set_option maxRecDepth 100000 in
theorem w12_keepValue {m : Mm} {K : Option Value ⊕ String → Mm → Prop} (hm : St m)   (h : C m12_tell [(.ref 668), (.int (7 * (mI m 668 50))), (.int (mI m 668 48))] m (fun o m1 => o = .inl none ∧ St m1 ∧ V m12_keepValue 19 [some (.ref 668), some (.int (7 * (mI m 668 50))), some (.int 0)] [] m1 K)) : V m12_keepValue 0 [some (.ref 668), none, none] [] m K := by
  refine r_bipush (y := m12_keepValue) (v := 7) dX12_keepValue_0 (by decide) ?_
  refine r_aload_n (y := m12_keepValue) dX12_keepValue_2 rfl rfl ?_
  refine g_X12_224 (y := m12_keepValue) rfl dX12_keepValue_3 hm ?_
  refine r_imul (y := m12_keepValue) dX12_keepValue_6 ?_
  refine r_istore_n (y := m12_keepValue) (L' := [some (.ref 668), some (.int (7 * (mI m 668 50))), none]) dX12_keepValue_7 rfl (Nat.le_of_ble_eq_true rfl) rfl ?_
  refine r_aload_n (y := m12_keepValue) dX12_keepValue_8 rfl rfl ?_
  refine r_iload_n (y := m12_keepValue) dX12_keepValue_9 rfl rfl ?_
  refine r_aload_n (y := m12_keepValue) dX12_keepValue_10 rfl rfl ?_
  refine g_X12_335 (y := m12_keepValue) rfl dX12_keepValue_11 hm ?_
  refine r_callV (y := m12_keepValue) (As := [(.int (7 * (mI m 668 50))), (.int (mI m 668 48))]) (b := 668) (ci := 12) dX12_keepValue_14 rfl k12_tell lm_X12_341 rfl ⟨by decide, by decide⟩ (so_668 hm) (by decide) rfl (Nat.le_of_ble_eq_true rfl) (C.mono h ?_)
  rintro _ m1 ⟨rfl, hm2, h⟩
  refine ⟨none, rfl, ?_⟩
  refine r_iconst (y := m12_keepValue) (v := 0) dX12_keepValue_17 (by decide) ?_
  refine r_istore_n (y := m12_keepValue) (L' := [some (.ref 668), some (.int (7 * (mI m 668 50))), some (.int 0)]) dX12_keepValue_18 rfl (Nat.le_of_ble_eq_true rfl) rfl ?_
  exact h
set_option maxHeartbeats 4000000 in
set_option maxRecDepth 100000 in
theorem w12_keepValue_19 {m : Mm} {K : Option Value ⊕ String → Mm → Prop} (hm : St m) {v1 : Int32} {v2 : Int32}  (h : ((6 ≤ v2 → vp_in (mI m 668 50) 10 ∧ vp_in 0 110 ∧ vp_in (mI m 668 50) 10 ∧ V m12_keepValue 84 [some (.ref 668), some (.int v1), some (.int 0)] [] (mSetI (mSetI m 705 (Int32.toNatClampNeg (mI m 668 50)) (mI m 668 30)) 706 (Int32.toNatClampNeg (mI m 668 50)) (mI m 694 0)) K) ∧ (¬ 6 ≤ v2 → vp_in ((6 * (mI m 668 49)) + v2) 1200 ∧ C m12_tell [(.ref 668), (.int ((v1 + 1) + v2)), (.int (mI m 685 (Int32.toNatClampNeg ((6 * (mI m 668 49)) + v2))))] m (fun o m6 => o = .inl none ∧ St m6 ∧ V m12_keepValue 19 [some (.ref 668), some (.int v1), some (.int (v2 + 1))] [] m6 K)))) : V m12_keepValue 19 [some (.ref 668), some (.int v1), some (.int v2)] [] m K := by
  refine r_iload_n (y := m12_keepValue) dX12_keepValue_19 rfl rfl ?_
  refine r_bipush (y := m12_keepValue) (v := 6) dX12_keepValue_20 (by decide) ?_
  refine r_icmp_ge (y := m12_keepValue) (tgt := 54) dX12_keepValue_22 (by decide) (fun hc1 => ?_) (fun hc1 => ?_)
  · have h := h.1 hc1
    refine r_aload_n (y := m12_keepValue) dX12_keepValue_54 rfl rfl ?_
    refine g_X12_119 (y := m12_keepValue) rfl dX12_keepValue_55 hm ?_
    refine r_aload_n (y := m12_keepValue) dX12_keepValue_58 rfl rfl ?_
    refine g_X12_224 (y := m12_keepValue) rfl dX12_keepValue_59 hm ?_
    refine r_aload_n (y := m12_keepValue) dX12_keepValue_62 rfl rfl ?_
    refine g_X12_242 (y := m12_keepValue) rfl dX12_keepValue_63 hm ?_
    obtain ⟨hb2, h⟩ := h
    refine r_iast (y := m12_keepValue) (n := 10) dX12_keepValue_66 (sa_705 hm) hb2 ?_
    refine r_aload_n (y := m12_keepValue) dX12_keepValue_67 rfl rfl ?_
    refine g_X12_122 (y := m12_keepValue) rfl dX12_keepValue_68 (St.i hm) ?_
    refine r_aload_n (y := m12_keepValue) dX12_keepValue_71 rfl rfl ?_
    refine g_X12_224 (y := m12_keepValue) rfl dX12_keepValue_72 (St.i hm) ?_
    refine V.top (b := (mI m 668 50)) (by first | rfl | simp [mI_set, mI_setR]) ?_
    refine r_aload_n (y := m12_keepValue) dX12_keepValue_75 rfl rfl ?_
    refine g_X12_86 (y := m12_keepValue) rfl dX12_keepValue_76 (St.i hm) ?_
    refine r_iconst (y := m12_keepValue) (v := 0) dX12_keepValue_79 (by decide) ?_
    obtain ⟨hb3, h⟩ := h
    refine r_iald (y := m12_keepValue) (n := 110) dX12_keepValue_80 (sa_694 (St.i hm)) hb3 ?_
    refine V.top (b := (mI m 694 0)) (by first | rfl | simp [mI_set, mI_setR]) ?_
    obtain ⟨hb4, h⟩ := h
    refine r_iast (y := m12_keepValue) (n := 10) dX12_keepValue_81 (sa_706 (St.i hm)) hb4 ?_
    refine r_iconst (y := m12_keepValue) (v := 0) dX12_keepValue_82 (by decide) ?_
    refine r_istore_n (y := m12_keepValue) (L' := [some (.ref 668), some (.int v1), some (.int 0)]) dX12_keepValue_83 rfl (Nat.le_of_ble_eq_true rfl) rfl ?_
    exact h
  · have h := h.2 hc1
    refine r_aload_n (y := m12_keepValue) dX12_keepValue_25 rfl rfl ?_
    refine r_iload_n (y := m12_keepValue) dX12_keepValue_26 rfl rfl ?_
    refine r_iconst (y := m12_keepValue) (v := 1) dX12_keepValue_27 (by decide) ?_
    refine r_iadd (y := m12_keepValue) dX12_keepValue_28 ?_
    refine r_iload_n (y := m12_keepValue) dX12_keepValue_29 rfl rfl ?_
    refine r_iadd (y := m12_keepValue) dX12_keepValue_30 ?_
    refine r_aload_n (y := m12_keepValue) dX12_keepValue_31 rfl rfl ?_
    refine g_X12_59 (y := m12_keepValue) rfl dX12_keepValue_32 hm ?_
    refine r_bipush (y := m12_keepValue) (v := 6) dX12_keepValue_35 (by decide) ?_
    refine r_aload_n (y := m12_keepValue) dX12_keepValue_37 rfl rfl ?_
    refine g_X12_332 (y := m12_keepValue) rfl dX12_keepValue_38 hm ?_
    refine r_imul (y := m12_keepValue) dX12_keepValue_41 ?_
    refine r_iload_n (y := m12_keepValue) dX12_keepValue_42 rfl rfl ?_
    refine r_iadd (y := m12_keepValue) dX12_keepValue_43 ?_
    obtain ⟨hb5, h⟩ := h
    refine r_iald (y := m12_keepValue) (n := 1200) dX12_keepValue_44 (sa_685 hm) hb5 ?_
    refine r_callV (y := m12_keepValue) (As := [(.int ((v1 + 1) + v2)), (.int (mI m 685 (Int32.toNatClampNeg ((6 * (mI m 668 49)) + v2))))]) (b := 668) (ci := 12) dX12_keepValue_45 rfl k12_tell lm_X12_341 rfl ⟨by decide, by decide⟩ (so_668 hm) (by decide) rfl (Nat.le_of_ble_eq_true rfl) (C.mono h ?_)
    rintro _ m6 ⟨rfl, hm7, h⟩
    refine ⟨none, rfl, ?_⟩
    refine r_iinc (y := m12_keepValue) (v := (v2 + 1)) (L' := [some (.ref 668), some (.int v1), some (.int (v2 + 1))]) dX12_keepValue_48 rfl (by rfl) rfl ?_
    refine r_goto (y := m12_keepValue) (tgt := 19) dX12_keepValue_51 (by decide) ?_
    exact h
set_option maxHeartbeats 4000000 in
set_option maxRecDepth 100000 in
theorem w12_keepValue_84 {m : Mm} {K : Option Value ⊕ String → Mm → Prop} (hm : St m) {v1 : Int32} {v2 : Int32}  (h : vp_in 0 110 ∧ (((mI m 694 0) ≤ v2 → K (.inl none) (mSetI m 668 50 ((mI m 668 50) + 1))) ∧ (¬ (mI m 694 0) ≤ v2 → vp_in v2 4510 ∧ vp_in ((40 * (mI m 668 50)) + v2) 400 ∧ V m12_keepValue 84 [some (.ref 668), some (.int v1), some (.int (v2 + 1))] [] (mSetI m 707 (Int32.toNatClampNeg ((40 * (mI m 668 50)) + v2)) (mI m 695 (Int32.toNatClampNeg v2))) K))) : V m12_keepValue 84 [some (.ref 668), some (.int v1), some (.int v2)] [] m K := by
  refine r_iload_n (y := m12_keepValue) dX12_keepValue_84 rfl rfl ?_
  refine r_aload_n (y := m12_keepValue) dX12_keepValue_85 rfl rfl ?_
  refine g_X12_86 (y := m12_keepValue) rfl dX12_keepValue_86 hm ?_
  refine r_iconst (y := m12_keepValue) (v := 0) dX12_keepValue_89 (by decide) ?_
  obtain ⟨hb1, h⟩ := h
  refine r_iald (y := m12_keepValue) (n := 110) dX12_keepValue_90 (sa_694 hm) hb1 ?_
  refine r_icmp_ge (y := m12_keepValue) (tgt := 120) dX12_keepValue_91 (by decide) (fun hc2 => ?_) (fun hc2 => ?_)
  · have h := h.1 hc2
    refine r_aload_n (y := m12_keepValue) dX12_keepValue_120 rfl rfl ?_
    refine r_dup_r (y := m12_keepValue) dX12_keepValue_121 ?_
    refine g_X12_224 (y := m12_keepValue) rfl dX12_keepValue_122 hm ?_
    refine r_iconst (y := m12_keepValue) (v := 1) dX12_keepValue_125 (by decide) ?_
    refine r_iadd (y := m12_keepValue) dX12_keepValue_126 ?_
    refine p_X12_224 (y := m12_keepValue) rfl dX12_keepValue_127 hm ?_
    exact r_ret (y := m12_keepValue) dX12_keepValue_130 rfl h
  · have h := h.2 hc2
    refine r_aload_n (y := m12_keepValue) dX12_keepValue_94 rfl rfl ?_
    refine g_X12_125 (y := m12_keepValue) rfl dX12_keepValue_95 hm ?_
    refine r_bipush (y := m12_keepValue) (v := 40) dX12_keepValue_98 (by decide) ?_
    refine r_aload_n (y := m12_keepValue) dX12_keepValue_100 rfl rfl ?_
    refine g_X12_224 (y := m12_keepValue) rfl dX12_keepValue_101 hm ?_
    refine r_imul (y := m12_keepValue) dX12_keepValue_104 ?_
    refine r_iload_n (y := m12_keepValue) dX12_keepValue_105 rfl rfl ?_
    refine r_iadd (y := m12_keepValue) dX12_keepValue_106 ?_
    refine r_aload_n (y := m12_keepValue) dX12_keepValue_107 rfl rfl ?_
    refine g_X12_89 (y := m12_keepValue) rfl dX12_keepValue_108 hm ?_
    refine r_iload_n (y := m12_keepValue) dX12_keepValue_111 rfl rfl ?_
    obtain ⟨hb3, h⟩ := h
    refine r_iald (y := m12_keepValue) (n := 4510) dX12_keepValue_112 (sa_695 hm) hb3 ?_
    obtain ⟨hb4, h⟩ := h
    refine r_iast (y := m12_keepValue) (n := 400) dX12_keepValue_113 (sa_707 hm) hb4 ?_
    refine r_iinc (y := m12_keepValue) (v := (v2 + 1)) (L' := [some (.ref 668), some (.int v1), some (.int (v2 + 1))]) dX12_keepValue_114 rfl (by rfl) rfl ?_
    refine r_goto (y := m12_keepValue) (tgt := 84) dX12_keepValue_117 (by decide) ?_
    exact h
set_option maxHeartbeats 4000000 in
set_option maxRecDepth 100000 in
theorem w12_lays {m : Mm} {K : Option Value ⊕ String → Mm → Prop} (hm : St m) {a0 : Int32}  (h : vp_in 0 110 ∧ ((¬ a0 = (-1) → vp_in (mI m 668 58) 5000 ∧ V m12_lays 30 [some (.ref 668), some (.int a0), some (.int (mI m 668 58)), some (.int 0)] [] (mSetI m 710 (Int32.toNatClampNeg (mI m 668 58)) ((mI m 693 0) + 1)) K) ∧ (a0 = (-1) → vp_in (mI m 668 58) 5000 ∧ V m12_lays 30 [some (.ref 668), some (.int a0), some (.int (mI m 668 58)), some (.int 0)] [] (mSetI m 710 (Int32.toNatClampNeg (mI m 668 58)) ((mI m 693 0) + 0)) K))) : V m12_lays 0 [some (.ref 668), some (.int a0), none, none] [] m K := by
  refine r_aload_n (y := m12_lays) dX12_lays_0 rfl rfl ?_
  refine g_X12_344 (y := m12_lays) rfl dX12_lays_1 hm ?_
  refine r_istore_n (y := m12_lays) (L' := [some (.ref 668), some (.int a0), some (.int (mI m 668 58)), none]) dX12_lays_4 rfl (Nat.le_of_ble_eq_true rfl) rfl ?_
  refine r_aload_n (y := m12_lays) dX12_lays_5 rfl rfl ?_
  refine g_X12_134 (y := m12_lays) rfl dX12_lays_6 hm ?_
  refine r_iload_n (y := m12_lays) dX12_lays_9 rfl rfl ?_
  refine r_aload_n (y := m12_lays) dX12_lays_10 rfl rfl ?_
  refine g_X12_83 (y := m12_lays) rfl dX12_lays_11 hm ?_
  refine r_iconst (y := m12_lays) (v := 0) dX12_lays_14 (by decide) ?_
  obtain ⟨hb1, h⟩ := h
  refine r_iald (y := m12_lays) (n := 110) dX12_lays_15 (sa_693 hm) hb1 ?_
  refine r_iload_n (y := m12_lays) dX12_lays_16 rfl rfl ?_
  refine r_iconst (y := m12_lays) (v := (-1)) dX12_lays_17 (by decide) ?_
  refine r_icmp_ne (y := m12_lays) (tgt := 25) dX12_lays_18 (by decide) (fun hc2 => ?_) (fun hc2 => ?_)
  · have h := h.1 hc2
    refine r_iconst (y := m12_lays) (v := 1) dX12_lays_25 (by decide) ?_
    refine r_iadd (y := m12_lays) dX12_lays_26 ?_
    obtain ⟨hb3, h⟩ := h
    refine r_iast (y := m12_lays) (n := 5000) dX12_lays_27 (sa_710 hm) hb3 ?_
    refine r_iconst (y := m12_lays) (v := 0) dX12_lays_28 (by decide) ?_
    refine r_istore_n (y := m12_lays) (L' := [some (.ref 668), some (.int a0), some (.int (mI m 668 58)), some (.int 0)]) dX12_lays_29 rfl (Nat.le_of_ble_eq_true rfl) rfl ?_
    exact h
  · have h := h.2 hc2
    refine r_iconst (y := m12_lays) (v := 0) dX12_lays_21 (by decide) ?_
    refine r_goto (y := m12_lays) (tgt := 26) dX12_lays_22 (by decide) ?_
    refine r_iadd (y := m12_lays) dX12_lays_26 ?_
    obtain ⟨hb4, h⟩ := h
    refine r_iast (y := m12_lays) (n := 5000) dX12_lays_27 (sa_710 hm) hb4 ?_
    refine r_iconst (y := m12_lays) (v := 0) dX12_lays_28 (by decide) ?_
    refine r_istore_n (y := m12_lays) (L' := [some (.ref 668), some (.int a0), some (.int (mI m 668 58)), some (.int 0)]) dX12_lays_29 rfl (Nat.le_of_ble_eq_true rfl) rfl ?_
    exact h
set_option maxHeartbeats 4000000 in
set_option maxRecDepth 100000 in
theorem w12_lays_30 {m : Mm} {K : Option Value ⊕ String → Mm → Prop} (hm : St m) {v1 : Int32} {v2 : Int32} {v3 : Int32}  (h : vp_in 0 110 ∧ (((mI m 693 0) ≤ v3 → ((v1 = (-1) → vp_in (mI m 668 57) 5000 ∧ K (.inl none) (mSetI (mSetI (mSetI m 709 (Int32.toNatClampNeg (mI m 668 57)) v2) 668 58 ((mI m 668 58) + 1)) 668 57 ((mI m 668 57) + 1))) ∧ (¬ v1 = (-1) → vp_in 0 110 ∧ vp_in ((41 * v2) + (mI m 693 0)) 205000 ∧ vp_in (mI m 668 57) 5000 ∧ K (.inl none) (mSetI (mSetI (mSetI (mSetI m 711 (Int32.toNatClampNeg ((41 * v2) + (mI m 693 0))) v1) 709 (Int32.toNatClampNeg (mI m 668 57)) v2) 668 58 ((mI m 668 58) + 1)) 668 57 ((mI m 668 57) + 1))))) ∧ (¬ (mI m 693 0) ≤ v3 → vp_in v3 4510 ∧ vp_in ((41 * v2) + v3) 205000 ∧ V m12_lays 30 [some (.ref 668), some (.int v1), some (.int v2), some (.int (v3 + 1))] [] (mSetI m 711 (Int32.toNatClampNeg ((41 * v2) + v3)) (mI m 695 (Int32.toNatClampNeg v3))) K))) : V m12_lays 30 [some (.ref 668), some (.int v1), some (.int v2), some (.int v3)] [] m K := by
  refine r_iload_n (y := m12_lays) dX12_lays_30 rfl rfl ?_
  refine r_aload_n (y := m12_lays) dX12_lays_31 rfl rfl ?_
  refine g_X12_83 (y := m12_lays) rfl dX12_lays_32 hm ?_
  refine r_iconst (y := m12_lays) (v := 0) dX12_lays_35 (by decide) ?_
  obtain ⟨hb1, h⟩ := h
  refine r_iald (y := m12_lays) (n := 110) dX12_lays_36 (sa_693 hm) hb1 ?_
  refine r_icmp_ge (y := m12_lays) (tgt := 63) dX12_lays_37 (by decide) (fun hc2 => ?_) (fun hc2 => ?_)
  · have h := h.1 hc2
    refine r_iload_n (y := m12_lays) dX12_lays_63 rfl rfl ?_
    refine r_iconst (y := m12_lays) (v := (-1)) dX12_lays_64 (by decide) ?_
    refine r_icmp_eq (y := m12_lays) (tgt := 85) dX12_lays_65 (by decide) (fun hc3 => ?_) (fun hc3 => ?_)
    · have h := h.1 hc3
      refine r_aload_n (y := m12_lays) dX12_lays_85 rfl rfl ?_
      refine g_X12_131 (y := m12_lays) rfl dX12_lays_86 hm ?_
      refine r_aload_n (y := m12_lays) dX12_lays_89 rfl rfl ?_
      refine g_X12_347 (y := m12_lays) rfl dX12_lays_90 hm ?_
      refine r_iload_n (y := m12_lays) dX12_lays_93 rfl rfl ?_
      obtain ⟨hb4, h⟩ := h
      refine r_iast (y := m12_lays) (n := 5000) dX12_lays_94 (sa_709 hm) hb4 ?_
      refine r_aload_n (y := m12_lays) dX12_lays_95 rfl rfl ?_
      refine r_dup_r (y := m12_lays) dX12_lays_96 ?_
      refine g_X12_344 (y := m12_lays) rfl dX12_lays_97 (St.i hm) ?_
      refine V.top (b := (mI m 668 58)) (by first | rfl | simp [mI_set, mI_setR]) ?_
      refine r_iconst (y := m12_lays) (v := 1) dX12_lays_100 (by decide) ?_
      refine r_iadd (y := m12_lays) dX12_lays_101 ?_
      refine p_X12_344 (y := m12_lays) rfl dX12_lays_102 (St.i hm) ?_
      refine r_aload_n (y := m12_lays) dX12_lays_105 rfl rfl ?_
      refine r_dup_r (y := m12_lays) dX12_lays_106 ?_
      refine g_X12_347 (y := m12_lays) rfl dX12_lays_107 (St.i (St.i hm)) ?_
      refine V.top (b := (mI m 668 57)) (by first | rfl | simp [mI_set, mI_setR]) ?_
      refine r_iconst (y := m12_lays) (v := 1) dX12_lays_110 (by decide) ?_
      refine r_iadd (y := m12_lays) dX12_lays_111 ?_
      refine p_X12_347 (y := m12_lays) rfl dX12_lays_112 (St.i (St.i hm)) ?_
      exact r_ret (y := m12_lays) dX12_lays_115 rfl h
    · have h := h.2 hc3
      refine r_aload_n (y := m12_lays) dX12_lays_68 rfl rfl ?_
      refine g_X12_138 (y := m12_lays) rfl dX12_lays_69 hm ?_
      refine r_bipush (y := m12_lays) (v := 41) dX12_lays_72 (by decide) ?_
      refine r_iload_n (y := m12_lays) dX12_lays_74 rfl rfl ?_
      refine r_imul (y := m12_lays) dX12_lays_75 ?_
      refine r_aload_n (y := m12_lays) dX12_lays_76 rfl rfl ?_
      refine g_X12_83 (y := m12_lays) rfl dX12_lays_77 hm ?_
      refine r_iconst (y := m12_lays) (v := 0) dX12_lays_80 (by decide) ?_
      obtain ⟨hb5, h⟩ := h
      refine r_iald (y := m12_lays) (n := 110) dX12_lays_81 (sa_693 hm) hb5 ?_
      refine r_iadd (y := m12_lays) dX12_lays_82 ?_
      refine r_iload_n (y := m12_lays) dX12_lays_83 rfl rfl ?_
      obtain ⟨hb6, h⟩ := h
      refine r_iast (y := m12_lays) (n := 205000) dX12_lays_84 (sa_711 hm) hb6 ?_
      refine r_aload_n (y := m12_lays) dX12_lays_85 rfl rfl ?_
      refine g_X12_131 (y := m12_lays) rfl dX12_lays_86 (St.i hm) ?_
      refine r_aload_n (y := m12_lays) dX12_lays_89 rfl rfl ?_
      refine g_X12_347 (y := m12_lays) rfl dX12_lays_90 (St.i hm) ?_
      refine V.top (b := (mI m 668 57)) (by first | rfl | simp [mI_set, mI_setR]) ?_
      refine r_iload_n (y := m12_lays) dX12_lays_93 rfl rfl ?_
      obtain ⟨hb7, h⟩ := h
      refine r_iast (y := m12_lays) (n := 5000) dX12_lays_94 (sa_709 (St.i hm)) hb7 ?_
      refine r_aload_n (y := m12_lays) dX12_lays_95 rfl rfl ?_
      refine r_dup_r (y := m12_lays) dX12_lays_96 ?_
      refine g_X12_344 (y := m12_lays) rfl dX12_lays_97 (St.i (St.i hm)) ?_
      refine V.top (b := (mI m 668 58)) (by first | rfl | simp [mI_set, mI_setR]) ?_
      refine r_iconst (y := m12_lays) (v := 1) dX12_lays_100 (by decide) ?_
      refine r_iadd (y := m12_lays) dX12_lays_101 ?_
      refine p_X12_344 (y := m12_lays) rfl dX12_lays_102 (St.i (St.i hm)) ?_
      refine r_aload_n (y := m12_lays) dX12_lays_105 rfl rfl ?_
      refine r_dup_r (y := m12_lays) dX12_lays_106 ?_
      refine g_X12_347 (y := m12_lays) rfl dX12_lays_107 (St.i (St.i (St.i hm))) ?_
      refine V.top (b := (mI m 668 57)) (by first | rfl | simp [mI_set, mI_setR]) ?_
      refine r_iconst (y := m12_lays) (v := 1) dX12_lays_110 (by decide) ?_
      refine r_iadd (y := m12_lays) dX12_lays_111 ?_
      refine p_X12_347 (y := m12_lays) rfl dX12_lays_112 (St.i (St.i (St.i hm))) ?_
      exact r_ret (y := m12_lays) dX12_lays_115 rfl h
  · have h := h.2 hc2
    refine r_aload_n (y := m12_lays) dX12_lays_40 rfl rfl ?_
    refine g_X12_138 (y := m12_lays) rfl dX12_lays_41 hm ?_
    refine r_bipush (y := m12_lays) (v := 41) dX12_lays_44 (by decide) ?_
    refine r_iload_n (y := m12_lays) dX12_lays_46 rfl rfl ?_
    refine r_imul (y := m12_lays) dX12_lays_47 ?_
    refine r_iload_n (y := m12_lays) dX12_lays_48 rfl rfl ?_
    refine r_iadd (y := m12_lays) dX12_lays_49 ?_
    refine r_aload_n (y := m12_lays) dX12_lays_50 rfl rfl ?_
    refine g_X12_89 (y := m12_lays) rfl dX12_lays_51 hm ?_
    refine r_iload_n (y := m12_lays) dX12_lays_54 rfl rfl ?_
    obtain ⟨hb8, h⟩ := h
    refine r_iald (y := m12_lays) (n := 4510) dX12_lays_55 (sa_695 hm) hb8 ?_
    obtain ⟨hb9, h⟩ := h
    refine r_iast (y := m12_lays) (n := 205000) dX12_lays_56 (sa_711 hm) hb9 ?_
    refine r_iinc (y := m12_lays) (v := (v3 + 1)) (L' := [some (.ref 668), some (.int v1), some (.int v2), some (.int (v3 + 1))]) dX12_lays_57 rfl (by rfl) rfl ?_
    refine r_goto (y := m12_lays) (tgt := 30) dX12_lays_60 (by decide) ?_
    exact h
set_option maxHeartbeats 4000000 in
set_option maxRecDepth 100000 in
theorem w12_takes {m : Mm} {K : Option Value ⊕ String → Mm → Prop} (hm : St m) {a0 : Int32}  (h : vp_in a0 5000 ∧ V m12_takes 19 [some (.ref 668), some (.int a0), some (.int (mI m 709 (Int32.toNatClampNeg a0))), some (.int a0)] [] (mSetI m 668 57 ((mI m 668 57) - 1)) K) : V m12_takes 0 [some (.ref 668), some (.int a0), none, none] [] m K := by
  refine r_aload_n (y := m12_takes) dX12_takes_0 rfl rfl ?_
  refine g_X12_131 (y := m12_takes) rfl dX12_takes_1 hm ?_
  refine r_iload_n (y := m12_takes) dX12_takes_4 rfl rfl ?_
  obtain ⟨hb1, h⟩ := h
  refine r_iald (y := m12_takes) (n := 5000) dX12_takes_5 (sa_709 hm) hb1 ?_
  refine r_istore_n (y := m12_takes) (L' := [some (.ref 668), some (.int a0), some (.int (mI m 709 (Int32.toNatClampNeg a0))), none]) dX12_takes_6 rfl (Nat.le_of_ble_eq_true rfl) rfl ?_
  refine r_aload_n (y := m12_takes) dX12_takes_7 rfl rfl ?_
  refine r_dup_r (y := m12_takes) dX12_takes_8 ?_
  refine g_X12_347 (y := m12_takes) rfl dX12_takes_9 hm ?_
  refine r_iconst (y := m12_takes) (v := 1) dX12_takes_12 (by decide) ?_
  refine r_isub (y := m12_takes) dX12_takes_13 ?_
  refine p_X12_347 (y := m12_takes) rfl dX12_takes_14 hm ?_
  refine r_iload_n (y := m12_takes) dX12_takes_17 rfl rfl ?_
  refine r_istore_n (y := m12_takes) (L' := [some (.ref 668), some (.int a0), some (.int (mI m 709 (Int32.toNatClampNeg a0))), some (.int a0)]) dX12_takes_18 rfl (Nat.le_of_ble_eq_true rfl) rfl ?_
  exact h
set_option maxHeartbeats 4000000 in
set_option maxRecDepth 100000 in
theorem w12_takes_19 {m : Mm} {K : Option Value ⊕ String → Mm → Prop} (hm : St m) {v1 : Int32} {v2 : Int32} {v3 : Int32}  (h : (((mI m 668 57) ≤ v3 → vp_in v2 5000 ∧ vp_in 0 110 ∧ V m12_takes 61 [some (.ref 668), some (.int v1), some (.int v2), some (.int 0)] [] (mSetI m 693 0 (mI m 710 (Int32.toNatClampNeg v2))) K) ∧ (¬ (mI m 668 57) ≤ v3 → vp_in (v3 + 1) 5000 ∧ vp_in v3 5000 ∧ V m12_takes 19 [some (.ref 668), some (.int v1), some (.int v2), some (.int (v3 + 1))] [] (mSetI m 709 (Int32.toNatClampNeg v3) (mI m 709 (Int32.toNatClampNeg (v3 + 1)))) K))) : V m12_takes 19 [some (.ref 668), some (.int v1), some (.int v2), some (.int v3)] [] m K := by
  refine r_iload_n (y := m12_takes) dX12_takes_19 rfl rfl ?_
  refine r_aload_n (y := m12_takes) dX12_takes_20 rfl rfl ?_
  refine g_X12_347 (y := m12_takes) rfl dX12_takes_21 hm ?_
  refine r_icmp_ge (y := m12_takes) (tgt := 47) dX12_takes_24 (by decide) (fun hc1 => ?_) (fun hc1 => ?_)
  · have h := h.1 hc1
    refine r_aload_n (y := m12_takes) dX12_takes_47 rfl rfl ?_
    refine g_X12_83 (y := m12_takes) rfl dX12_takes_48 hm ?_
    refine r_iconst (y := m12_takes) (v := 0) dX12_takes_51 (by decide) ?_
    refine r_aload_n (y := m12_takes) dX12_takes_52 rfl rfl ?_
    refine g_X12_134 (y := m12_takes) rfl dX12_takes_53 hm ?_
    refine r_iload_n (y := m12_takes) dX12_takes_56 rfl rfl ?_
    obtain ⟨hb2, h⟩ := h
    refine r_iald (y := m12_takes) (n := 5000) dX12_takes_57 (sa_710 hm) hb2 ?_
    obtain ⟨hb3, h⟩ := h
    refine r_iast (y := m12_takes) (n := 110) dX12_takes_58 (sa_693 hm) hb3 ?_
    refine r_iconst (y := m12_takes) (v := 0) dX12_takes_59 (by decide) ?_
    refine r_istore_n (y := m12_takes) (L' := [some (.ref 668), some (.int v1), some (.int v2), some (.int 0)]) dX12_takes_60 rfl (Nat.le_of_ble_eq_true rfl) rfl ?_
    exact h
  · have h := h.2 hc1
    refine r_aload_n (y := m12_takes) dX12_takes_27 rfl rfl ?_
    refine g_X12_131 (y := m12_takes) rfl dX12_takes_28 hm ?_
    refine r_iload_n (y := m12_takes) dX12_takes_31 rfl rfl ?_
    refine r_aload_n (y := m12_takes) dX12_takes_32 rfl rfl ?_
    refine g_X12_131 (y := m12_takes) rfl dX12_takes_33 hm ?_
    refine r_iload_n (y := m12_takes) dX12_takes_36 rfl rfl ?_
    refine r_iconst (y := m12_takes) (v := 1) dX12_takes_37 (by decide) ?_
    refine r_iadd (y := m12_takes) dX12_takes_38 ?_
    obtain ⟨hb4, h⟩ := h
    refine r_iald (y := m12_takes) (n := 5000) dX12_takes_39 (sa_709 hm) hb4 ?_
    obtain ⟨hb5, h⟩ := h
    refine r_iast (y := m12_takes) (n := 5000) dX12_takes_40 (sa_709 hm) hb5 ?_
    refine r_iinc (y := m12_takes) (v := (v3 + 1)) (L' := [some (.ref 668), some (.int v1), some (.int v2), some (.int (v3 + 1))]) dX12_takes_41 rfl (by rfl) rfl ?_
    refine r_goto (y := m12_takes) (tgt := 19) dX12_takes_44 (by decide) ?_
    exact h
set_option maxHeartbeats 4000000 in
set_option maxRecDepth 100000 in
theorem w12_takes_61 {m : Mm} {K : Option Value ⊕ String → Mm → Prop} (hm : St m) {v1 : Int32} {v2 : Int32} {v3 : Int32}  (h : vp_in 0 110 ∧ (((mI m 693 0) ≤ v3 → K (.inl none) m) ∧ (¬ (mI m 693 0) ≤ v3 → vp_in ((41 * v2) + v3) 205000 ∧ vp_in v3 4510 ∧ V m12_takes 61 [some (.ref 668), some (.int v1), some (.int v2), some (.int (v3 + 1))] [] (mSetI m 695 (Int32.toNatClampNeg v3) (mI m 711 (Int32.toNatClampNeg ((41 * v2) + v3)))) K))) : V m12_takes 61 [some (.ref 668), some (.int v1), some (.int v2), some (.int v3)] [] m K := by
  refine r_iload_n (y := m12_takes) dX12_takes_61 rfl rfl ?_
  refine r_aload_n (y := m12_takes) dX12_takes_62 rfl rfl ?_
  refine g_X12_83 (y := m12_takes) rfl dX12_takes_63 hm ?_
  refine r_iconst (y := m12_takes) (v := 0) dX12_takes_66 (by decide) ?_
  obtain ⟨hb1, h⟩ := h
  refine r_iald (y := m12_takes) (n := 110) dX12_takes_67 (sa_693 hm) hb1 ?_
  refine r_icmp_ge (y := m12_takes) (tgt := 94) dX12_takes_68 (by decide) (fun hc2 => ?_) (fun hc2 => ?_)
  · have h := h.1 hc2
    exact r_ret (y := m12_takes) dX12_takes_94 rfl h
  · have h := h.2 hc2
    refine r_aload_n (y := m12_takes) dX12_takes_71 rfl rfl ?_
    refine g_X12_89 (y := m12_takes) rfl dX12_takes_72 hm ?_
    refine r_iload_n (y := m12_takes) dX12_takes_75 rfl rfl ?_
    refine r_aload_n (y := m12_takes) dX12_takes_76 rfl rfl ?_
    refine g_X12_138 (y := m12_takes) rfl dX12_takes_77 hm ?_
    refine r_bipush (y := m12_takes) (v := 41) dX12_takes_80 (by decide) ?_
    refine r_iload_n (y := m12_takes) dX12_takes_82 rfl rfl ?_
    refine r_imul (y := m12_takes) dX12_takes_83 ?_
    refine r_iload_n (y := m12_takes) dX12_takes_84 rfl rfl ?_
    refine r_iadd (y := m12_takes) dX12_takes_85 ?_
    obtain ⟨hb3, h⟩ := h
    refine r_iald (y := m12_takes) (n := 205000) dX12_takes_86 (sa_711 hm) hb3 ?_
    obtain ⟨hb4, h⟩ := h
    refine r_iast (y := m12_takes) (n := 4510) dX12_takes_87 (sa_695 hm) hb4 ?_
    refine r_iinc (y := m12_takes) (v := (v3 + 1)) (L' := [some (.ref 668), some (.int v1), some (.int v2), some (.int (v3 + 1))]) dX12_takes_88 rfl (by rfl) rfl ?_
    refine r_goto (y := m12_takes) (tgt := 61) dX12_takes_91 (by decide) ?_
    exact h
set_option maxHeartbeats 4000000 in
set_option maxRecDepth 100000 in
theorem w12_search {m : Mm} {K : Option Value ⊕ String → Mm → Prop} (hm : St m) {a0 : Int32} {a1 : Int32}  (h : C m12_in [(.int a0), (.int 0), (.int 2)] m (fun o m1 => ∃ x3 : Int32, o = .inl (some (.int x3)) ∧ St m1 ∧ ((¬ x3 = 0 → ((¬ (mI m1 668 11) = 0 → (((0 : Int32) ≤ 0 → V m12_search 40 [some (.ref 668), some (.int a0), some (.int a1), some (.int 0), none, none] [] (mSetI m1 668 12 0) K) ∧ (¬ (0 : Int32) ≤ 0 → K (.inl (some (.int 0))) (mSetI m1 668 12 0)))) ∧ ((mI m1 668 11) = 0 → (((2 : Int32) ≤ 0 → V m12_search 40 [some (.ref 668), some (.int a0), some (.int a1), some (.int 0), none, none] [] (mSetI m1 668 12 2) K) ∧ (¬ (2 : Int32) ≤ 0 → K (.inl (some (.int 0))) (mSetI m1 668 12 2)))))) ∧ (x3 = 0 → (((1 : Int32) ≤ 0 → V m12_search 40 [some (.ref 668), some (.int a0), some (.int a1), some (.int 0), none, none] [] (mSetI m1 668 12 1) K) ∧ (¬ (1 : Int32) ≤ 0 → K (.inl (some (.int 0))) (mSetI m1 668 12 1))))))) : V m12_search 0 [some (.ref 668), some (.int a0), some (.int a1), none, none, none] [] m K := by
  refine r_aload_n (y := m12_search) dX12_search_0 rfl rfl ?_
  refine r_iload_n (y := m12_search) dX12_search_1 rfl rfl ?_
  refine r_iconst (y := m12_search) (v := 0) dX12_search_2 (by decide) ?_
  refine r_iconst (y := m12_search) (v := 2) dX12_search_3 (by decide) ?_
  refine r_callS (y := m12_search) (As := [(.int a0), (.int 0), (.int 2)]) dX12_search_4 rfl k12_in lm_X12_154 rfl ⟨by decide, by decide⟩ (Nat.le_of_ble_eq_true rfl) (C.mono h ?_)
  rintro _ m1 ⟨x3, rfl, hm2, h⟩
  refine ⟨_, rfl, ?_⟩
  refine r_if_ne (y := m12_search) (tgt := 14) dX12_search_7 (by decide) (fun hc4 => ?_) (fun hc4 => ?_)
  · have h := h.1 hc4
    refine r_aload_n (y := m12_search) dX12_search_14 rfl rfl ?_
    refine g_X12_220 (y := m12_search) rfl dX12_search_15 hm2 ?_
    refine r_if_ne (y := m12_search) (tgt := 25) dX12_search_18 (by decide) (fun hc5 => ?_) (fun hc5 => ?_)
    · have h := h.1 hc5
      refine r_iconst (y := m12_search) (v := 0) dX12_search_25 (by decide) ?_
      refine p_X12_147 (y := m12_search) rfl dX12_search_26 hm2 ?_
      refine r_aload_n (y := m12_search) dX12_search_29 rfl rfl ?_
      refine g_X12_147 (y := m12_search) rfl dX12_search_30 (St.i hm2) ?_
      refine V.top (b := 0) (by first | rfl | simp [mI_set, mI_setR]) ?_
      refine r_if_le (y := m12_search) (tgt := 38) dX12_search_33 (by decide) (fun hc6 => ?_) (fun hc6 => ?_)
      · have h := h.1 hc6
        refine r_iconst (y := m12_search) (v := 0) dX12_search_38 (by decide) ?_
        refine r_istore_n (y := m12_search) (L' := [some (.ref 668), some (.int a0), some (.int a1), some (.int 0), none, none]) dX12_search_39 rfl (Nat.le_of_ble_eq_true rfl) rfl ?_
        exact h
      · have h := h.2 hc6
        refine r_iconst (y := m12_search) (v := 0) dX12_search_36 (by decide) ?_
        exact r_iret (y := m12_search) dX12_search_37 rfl rfl h
    · have h := h.2 hc5
      refine r_iconst (y := m12_search) (v := 2) dX12_search_21 (by decide) ?_
      refine r_goto (y := m12_search) (tgt := 26) dX12_search_22 (by decide) ?_
      refine p_X12_147 (y := m12_search) rfl dX12_search_26 hm2 ?_
      refine r_aload_n (y := m12_search) dX12_search_29 rfl rfl ?_
      refine g_X12_147 (y := m12_search) rfl dX12_search_30 (St.i hm2) ?_
      refine V.top (b := 2) (by first | rfl | simp [mI_set, mI_setR]) ?_
      refine r_if_le (y := m12_search) (tgt := 38) dX12_search_33 (by decide) (fun hc7 => ?_) (fun hc7 => ?_)
      · have h := h.1 hc7
        refine r_iconst (y := m12_search) (v := 0) dX12_search_38 (by decide) ?_
        refine r_istore_n (y := m12_search) (L' := [some (.ref 668), some (.int a0), some (.int a1), some (.int 0), none, none]) dX12_search_39 rfl (Nat.le_of_ble_eq_true rfl) rfl ?_
        exact h
      · have h := h.2 hc7
        refine r_iconst (y := m12_search) (v := 0) dX12_search_36 (by decide) ?_
        exact r_iret (y := m12_search) dX12_search_37 rfl rfl h
  · have h := h.2 hc4
    refine r_iconst (y := m12_search) (v := 1) dX12_search_10 (by decide) ?_
    refine r_goto (y := m12_search) (tgt := 26) dX12_search_11 (by decide) ?_
    refine p_X12_147 (y := m12_search) rfl dX12_search_26 hm2 ?_
    refine r_aload_n (y := m12_search) dX12_search_29 rfl rfl ?_
    refine g_X12_147 (y := m12_search) rfl dX12_search_30 (St.i hm2) ?_
    refine V.top (b := 1) (by first | rfl | simp [mI_set, mI_setR]) ?_
    refine r_if_le (y := m12_search) (tgt := 38) dX12_search_33 (by decide) (fun hc8 => ?_) (fun hc8 => ?_)
    · have h := h.1 hc8
      refine r_iconst (y := m12_search) (v := 0) dX12_search_38 (by decide) ?_
      refine r_istore_n (y := m12_search) (L' := [some (.ref 668), some (.int a0), some (.int a1), some (.int 0), none, none]) dX12_search_39 rfl (Nat.le_of_ble_eq_true rfl) rfl ?_
      exact h
    · have h := h.2 hc8
      refine r_iconst (y := m12_search) (v := 0) dX12_search_36 (by decide) ?_
      exact r_iret (y := m12_search) dX12_search_37 rfl rfl h
set_option maxHeartbeats 4000000 in
set_option maxRecDepth 100000 in
theorem w12_search_40 {m : Mm} {K : Option Value ⊕ String → Mm → Prop} (hm : St m) {v1 : Int32} {v2 : Int32} {v3 : Int32}  (h : ((6 ≤ v3 → vp_in 0 110 ∧ C m12_lays [(.ref 668), (.int (-1))] (mSetI (mSetI (mSetI (mSetI m 668 50 0) 668 57 0) 668 58 0) 693 0 0) (fun o m3 => o = .inl none ∧ St m3 ∧ V m12_search 88 [some (.ref 668), some (.int v1), some (.int v2), some (.int v2), none, none] [] m3 K)) ∧ (¬ 6 ≤ v3 → vp_in v3 6 ∧ V m12_search 40 [some (.ref 668), some (.int v1), some (.int v2), some (.int (v3 + 1)), none, none] [] (mSetI m 708 (Int32.toNatClampNeg v3) 0) K))) : V m12_search 40 [some (.ref 668), some (.int v1), some (.int v2), some (.int v3), none, none] [] m K := by
  refine r_iload_n (y := m12_search) dX12_search_40 rfl rfl ?_
  refine r_bipush (y := m12_search) (v := 6) dX12_search_41 (by decide) ?_
  refine r_icmp_ge (y := m12_search) (tgt := 59) dX12_search_43 (by decide) (fun hc1 => ?_) (fun hc1 => ?_)
  · have h := h.1 hc1
    refine r_aload_n (y := m12_search) dX12_search_59 rfl rfl ?_
    refine r_iconst (y := m12_search) (v := 0) dX12_search_60 (by decide) ?_
    refine p_X12_224 (y := m12_search) rfl dX12_search_61 hm ?_
    refine r_aload_n (y := m12_search) dX12_search_64 rfl rfl ?_
    refine r_iconst (y := m12_search) (v := 0) dX12_search_65 (by decide) ?_
    refine p_X12_347 (y := m12_search) rfl dX12_search_66 (St.i hm) ?_
    refine r_aload_n (y := m12_search) dX12_search_69 rfl rfl ?_
    refine r_iconst (y := m12_search) (v := 0) dX12_search_70 (by decide) ?_
    refine p_X12_344 (y := m12_search) rfl dX12_search_71 (St.i (St.i hm)) ?_
    refine r_aload_n (y := m12_search) dX12_search_74 rfl rfl ?_
    refine g_X12_83 (y := m12_search) rfl dX12_search_75 (St.i (St.i (St.i hm))) ?_
    refine r_iconst (y := m12_search) (v := 0) dX12_search_78 (by decide) ?_
    refine r_iconst (y := m12_search) (v := 0) dX12_search_79 (by decide) ?_
    obtain ⟨hb2, h⟩ := h
    refine r_iast (y := m12_search) (n := 110) dX12_search_80 (sa_693 (St.i (St.i (St.i hm)))) hb2 ?_
    refine r_aload_n (y := m12_search) dX12_search_81 rfl rfl ?_
    refine r_iconst (y := m12_search) (v := (-1)) dX12_search_82 (by decide) ?_
    refine r_callV (y := m12_search) (As := [(.int (-1))]) (b := 668) (ci := 12) dX12_search_83 rfl k12_lays lm_X12_350 rfl ⟨by decide, by decide⟩ (so_668 (St.i (St.i (St.i (St.i hm))))) (by decide) rfl (Nat.le_of_ble_eq_true rfl) (C.mono h ?_)
    rintro _ m3 ⟨rfl, hm4, h⟩
    refine ⟨none, rfl, ?_⟩
    refine r_iload_n (y := m12_search) dX12_search_86 rfl rfl ?_
    refine r_istore_n (y := m12_search) (L' := [some (.ref 668), some (.int v1), some (.int v2), some (.int v2), none, none]) dX12_search_87 rfl (Nat.le_of_ble_eq_true rfl) rfl ?_
    exact h
  · have h := h.2 hc1
    refine r_aload_n (y := m12_search) dX12_search_46 rfl rfl ?_
    refine g_X12_128 (y := m12_search) rfl dX12_search_47 hm ?_
    refine r_iload_n (y := m12_search) dX12_search_50 rfl rfl ?_
    refine r_iconst (y := m12_search) (v := 0) dX12_search_51 (by decide) ?_
    obtain ⟨hb5, h⟩ := h
    refine r_iast (y := m12_search) (n := 6) dX12_search_52 (sa_708 hm) hb5 ?_
    refine r_iinc (y := m12_search) (v := (v3 + 1)) (L' := [some (.ref 668), some (.int v1), some (.int v2), some (.int (v3 + 1)), none, none]) dX12_search_53 rfl (by rfl) rfl ?_
    refine r_goto (y := m12_search) (tgt := 40) dX12_search_56 (by decide) ?_
    exact h
set_option maxHeartbeats 4000000 in
set_option maxRecDepth 100000 in
theorem w12_search_88 {m : Mm} {K : Option Value ⊕ String → Mm → Prop} (hm : St m) {v1 : Int32} {v2 : Int32} {v3 : Int32}  (h : (((mI m 668 57) ≤ 0 → V m12_search 260 [some (.ref 668), some (.int v1), some (.int v2), some (.int v3), none, none] [] m K) ∧ (¬ (mI m 668 57) ≤ 0 → vp_in 4 6 ∧ ((200 ≤ (mI m 708 4) → V m12_search 260 [some (.ref 668), some (.int v1), some (.int v2), some (.int v3), none, none] [] m K) ∧ (¬ 200 ≤ (mI m 708 4) → ¬ (mI m 668 57) = 0 ∧ ((¬ v1 = 0 → ((¬ v1 = 1 → C m12_takes [(.ref 668), (.int ((((((v3 * 1103515245) + 12345)).toUInt32 >>> (Int32.toUInt32 (16) &&& Int32.toUInt32 31)).toInt32) - (((((v3 * 1103515245) + 12345)).toUInt32 >>> (Int32.toUInt32 (16) &&& Int32.toUInt32 31)).toInt32) / (mI m 668 57) * (mI m 668 57)))] m (fun o m6 => o = .inl none ∧ St m6 ∧ C m12_run [(.ref 668)] m6 (fun o m8 => o = .inl none ∧ St m8 ∧ vp_in 4 6 ∧ vp_in 4 6 ∧ ((¬ (mI m8 668 29) = 5 → vp_in ((mI m8 668 29) - 1) 6 ∧ vp_in ((mI m8 668 29) - 1) 6 ∧ ((¬ (mI m8 668 29) = 1 → V m12_search 257 [some (.ref 668), some (.int v1), some (.int v2), some (.int ((v3 * 1103515245) + 12345)), some (.int ((((((v3 * 1103515245) + 12345)).toUInt32 >>> (Int32.toUInt32 (16) &&& Int32.toUInt32 31)).toInt32) - (((((v3 * 1103515245) + 12345)).toUInt32 >>> (Int32.toUInt32 (16) &&& Int32.toUInt32 31)).toInt32) / (mI m 668 57) * (mI m 668 57))), none] [] (mSetI (mSetI m8 708 4 ((mI m8 708 4) + 1)) 708 (Int32.toNatClampNeg ((mI m8 668 29) - 1)) ((mI (mSetI m8 708 4 ((mI m8 708 4) + 1)) 708 (Int32.toNatClampNeg ((mI m8 668 29) - 1))) + 1)) K) ∧ ((mI m8 668 29) = 1 → ((10 ≤ (mI m8 668 50) → V m12_search 257 [some (.ref 668), some (.int v1), some (.int v2), some (.int ((v3 * 1103515245) + 12345)), some (.int ((((((v3 * 1103515245) + 12345)).toUInt32 >>> (Int32.toUInt32 (16) &&& Int32.toUInt32 31)).toInt32) - (((((v3 * 1103515245) + 12345)).toUInt32 >>> (Int32.toUInt32 (16) &&& Int32.toUInt32 31)).toInt32) / (mI m 668 57) * (mI m 668 57))), none] [] (mSetI (mSetI m8 708 4 ((mI m8 708 4) + 1)) 708 (Int32.toNatClampNeg ((mI m8 668 29) - 1)) ((mI (mSetI m8 708 4 ((mI m8 708 4) + 1)) 708 (Int32.toNatClampNeg ((mI m8 668 29) - 1))) + 1)) K) ∧ (¬ 10 ≤ (mI m8 668 50) → C m12_keepValue [(.ref 668)] (mSetI (mSetI m8 708 4 ((mI m8 708 4) + 1)) 708 (Int32.toNatClampNeg ((mI m8 668 29) - 1)) ((mI (mSetI m8 708 4 ((mI m8 708 4) + 1)) 708 (Int32.toNatClampNeg ((mI m8 668 29) - 1))) + 1)) (fun o m17 => o = .inl none ∧ St m17 ∧ V m12_search 257 [some (.ref 668), some (.int v1), some (.int v2), some (.int ((v3 * 1103515245) + 12345)), some (.int ((((((v3 * 1103515245) + 12345)).toUInt32 >>> (Int32.toUInt32 (16) &&& Int32.toUInt32 31)).toInt32) - (((((v3 * 1103515245) + 12345)).toUInt32 >>> (Int32.toUInt32 (16) &&& Int32.toUInt32 31)).toInt32) / (mI m 668 57) * (mI m 668 57))), none] [] m17 K)))))) ∧ ((mI m8 668 29) = 5 → V m12_search 181 [some (.ref 668), some (.int v1), some (.int v2), some (.int ((v3 * 1103515245) + 12345)), some (.int ((((((v3 * 1103515245) + 12345)).toUInt32 >>> (Int32.toUInt32 (16) &&& Int32.toUInt32 31)).toInt32) - (((((v3 * 1103515245) + 12345)).toUInt32 >>> (Int32.toUInt32 (16) &&& Int32.toUInt32 31)).toInt32) / (mI m 668 57) * (mI m 668 57))), some (.int 0)] [] (mSetI m8 708 4 ((mI m8 708 4) + 1)) K))))) ∧ (v1 = 1 → C m12_takes [(.ref 668), (.int 0)] m (fun o m19 => o = .inl none ∧ St m19 ∧ C m12_run [(.ref 668)] m19 (fun o m21 => o = .inl none ∧ St m21 ∧ vp_in 4 6 ∧ vp_in 4 6 ∧ ((¬ (mI m21 668 29) = 5 → vp_in ((mI m21 668 29) - 1) 6 ∧ vp_in ((mI m21 668 29) - 1) 6 ∧ ((¬ (mI m21 668 29) = 1 → V m12_search 257 [some (.ref 668), some (.int v1), some (.int v2), some (.int ((v3 * 1103515245) + 12345)), some (.int ((((((v3 * 1103515245) + 12345)).toUInt32 >>> (Int32.toUInt32 (16) &&& Int32.toUInt32 31)).toInt32) - (((((v3 * 1103515245) + 12345)).toUInt32 >>> (Int32.toUInt32 (16) &&& Int32.toUInt32 31)).toInt32) / (mI m 668 57) * (mI m 668 57))), none] [] (mSetI (mSetI m21 708 4 ((mI m21 708 4) + 1)) 708 (Int32.toNatClampNeg ((mI m21 668 29) - 1)) ((mI (mSetI m21 708 4 ((mI m21 708 4) + 1)) 708 (Int32.toNatClampNeg ((mI m21 668 29) - 1))) + 1)) K) ∧ ((mI m21 668 29) = 1 → ((10 ≤ (mI m21 668 50) → V m12_search 257 [some (.ref 668), some (.int v1), some (.int v2), some (.int ((v3 * 1103515245) + 12345)), some (.int ((((((v3 * 1103515245) + 12345)).toUInt32 >>> (Int32.toUInt32 (16) &&& Int32.toUInt32 31)).toInt32) - (((((v3 * 1103515245) + 12345)).toUInt32 >>> (Int32.toUInt32 (16) &&& Int32.toUInt32 31)).toInt32) / (mI m 668 57) * (mI m 668 57))), none] [] (mSetI (mSetI m21 708 4 ((mI m21 708 4) + 1)) 708 (Int32.toNatClampNeg ((mI m21 668 29) - 1)) ((mI (mSetI m21 708 4 ((mI m21 708 4) + 1)) 708 (Int32.toNatClampNeg ((mI m21 668 29) - 1))) + 1)) K) ∧ (¬ 10 ≤ (mI m21 668 50) → C m12_keepValue [(.ref 668)] (mSetI (mSetI m21 708 4 ((mI m21 708 4) + 1)) 708 (Int32.toNatClampNeg ((mI m21 668 29) - 1)) ((mI (mSetI m21 708 4 ((mI m21 708 4) + 1)) 708 (Int32.toNatClampNeg ((mI m21 668 29) - 1))) + 1)) (fun o m30 => o = .inl none ∧ St m30 ∧ V m12_search 257 [some (.ref 668), some (.int v1), some (.int v2), some (.int ((v3 * 1103515245) + 12345)), some (.int ((((((v3 * 1103515245) + 12345)).toUInt32 >>> (Int32.toUInt32 (16) &&& Int32.toUInt32 31)).toInt32) - (((((v3 * 1103515245) + 12345)).toUInt32 >>> (Int32.toUInt32 (16) &&& Int32.toUInt32 31)).toInt32) / (mI m 668 57) * (mI m 668 57))), none] [] m30 K)))))) ∧ ((mI m21 668 29) = 5 → V m12_search 181 [some (.ref 668), some (.int v1), some (.int v2), some (.int ((v3 * 1103515245) + 12345)), some (.int ((((((v3 * 1103515245) + 12345)).toUInt32 >>> (Int32.toUInt32 (16) &&& Int32.toUInt32 31)).toInt32) - (((((v3 * 1103515245) + 12345)).toUInt32 >>> (Int32.toUInt32 (16) &&& Int32.toUInt32 31)).toInt32) / (mI m 668 57) * (mI m 668 57))), some (.int 0)] [] (mSetI m21 708 4 ((mI m21 708 4) + 1)) K))))))) ∧ (v1 = 0 → C m12_takes [(.ref 668), (.int ((mI m 668 57) - 1))] m (fun o m32 => o = .inl none ∧ St m32 ∧ C m12_run [(.ref 668)] m32 (fun o m34 => o = .inl none ∧ St m34 ∧ vp_in 4 6 ∧ vp_in 4 6 ∧ ((¬ (mI m34 668 29) = 5 → vp_in ((mI m34 668 29) - 1) 6 ∧ vp_in ((mI m34 668 29) - 1) 6 ∧ ((¬ (mI m34 668 29) = 1 → V m12_search 257 [some (.ref 668), some (.int v1), some (.int v2), some (.int ((v3 * 1103515245) + 12345)), some (.int ((((((v3 * 1103515245) + 12345)).toUInt32 >>> (Int32.toUInt32 (16) &&& Int32.toUInt32 31)).toInt32) - (((((v3 * 1103515245) + 12345)).toUInt32 >>> (Int32.toUInt32 (16) &&& Int32.toUInt32 31)).toInt32) / (mI m 668 57) * (mI m 668 57))), none] [] (mSetI (mSetI m34 708 4 ((mI m34 708 4) + 1)) 708 (Int32.toNatClampNeg ((mI m34 668 29) - 1)) ((mI (mSetI m34 708 4 ((mI m34 708 4) + 1)) 708 (Int32.toNatClampNeg ((mI m34 668 29) - 1))) + 1)) K) ∧ ((mI m34 668 29) = 1 → ((10 ≤ (mI m34 668 50) → V m12_search 257 [some (.ref 668), some (.int v1), some (.int v2), some (.int ((v3 * 1103515245) + 12345)), some (.int ((((((v3 * 1103515245) + 12345)).toUInt32 >>> (Int32.toUInt32 (16) &&& Int32.toUInt32 31)).toInt32) - (((((v3 * 1103515245) + 12345)).toUInt32 >>> (Int32.toUInt32 (16) &&& Int32.toUInt32 31)).toInt32) / (mI m 668 57) * (mI m 668 57))), none] [] (mSetI (mSetI m34 708 4 ((mI m34 708 4) + 1)) 708 (Int32.toNatClampNeg ((mI m34 668 29) - 1)) ((mI (mSetI m34 708 4 ((mI m34 708 4) + 1)) 708 (Int32.toNatClampNeg ((mI m34 668 29) - 1))) + 1)) K) ∧ (¬ 10 ≤ (mI m34 668 50) → C m12_keepValue [(.ref 668)] (mSetI (mSetI m34 708 4 ((mI m34 708 4) + 1)) 708 (Int32.toNatClampNeg ((mI m34 668 29) - 1)) ((mI (mSetI m34 708 4 ((mI m34 708 4) + 1)) 708 (Int32.toNatClampNeg ((mI m34 668 29) - 1))) + 1)) (fun o m43 => o = .inl none ∧ St m43 ∧ V m12_search 257 [some (.ref 668), some (.int v1), some (.int v2), some (.int ((v3 * 1103515245) + 12345)), some (.int ((((((v3 * 1103515245) + 12345)).toUInt32 >>> (Int32.toUInt32 (16) &&& Int32.toUInt32 31)).toInt32) - (((((v3 * 1103515245) + 12345)).toUInt32 >>> (Int32.toUInt32 (16) &&& Int32.toUInt32 31)).toInt32) / (mI m 668 57) * (mI m 668 57))), none] [] m43 K)))))) ∧ ((mI m34 668 29) = 5 → V m12_search 181 [some (.ref 668), some (.int v1), some (.int v2), some (.int ((v3 * 1103515245) + 12345)), some (.int ((((((v3 * 1103515245) + 12345)).toUInt32 >>> (Int32.toUInt32 (16) &&& Int32.toUInt32 31)).toInt32) - (((((v3 * 1103515245) + 12345)).toUInt32 >>> (Int32.toUInt32 (16) &&& Int32.toUInt32 31)).toInt32) / (mI m 668 57) * (mI m 668 57))), some (.int 0)] [] (mSetI m34 708 4 ((mI m34 708 4) + 1)) K))))))))))) : V m12_search 88 [some (.ref 668), some (.int v1), some (.int v2), some (.int v3), none, none] [] m K := by
  refine r_aload_n (y := m12_search) dX12_search_88 rfl rfl ?_
  refine g_X12_347 (y := m12_search) rfl dX12_search_89 hm ?_
  refine r_if_le (y := m12_search) (tgt := 260) dX12_search_92 (by decide) (fun hc1 => ?_) (fun hc1 => ?_)
  · have h := h.1 hc1
    exact h
  · have h := h.2 hc1
    refine r_aload_n (y := m12_search) dX12_search_95 rfl rfl ?_
    refine g_X12_128 (y := m12_search) rfl dX12_search_96 hm ?_
    refine r_iconst (y := m12_search) (v := 4) dX12_search_99 (by decide) ?_
    obtain ⟨hb2, h⟩ := h
    refine r_iald (y := m12_search) (n := 6) dX12_search_100 (sa_708 hm) hb2 ?_
    refine r_sipush (y := m12_search) (v := 200) dX12_search_101 (by decide) ?_
    refine r_icmp_ge (y := m12_search) (tgt := 260) dX12_search_104 (by decide) (fun hc3 => ?_) (fun hc3 => ?_)
    · have h := h.1 hc3
      exact h
    · have h := h.2 hc3
      refine r_iload_n (y := m12_search) dX12_search_107 rfl rfl ?_
      refine r_ldcw (y := m12_search) (v := 1103515245) dX12_search_108 (by decide +kernel) ?_
      refine r_imul (y := m12_search) dX12_search_111 ?_
      refine r_sipush (y := m12_search) (v := 12345) dX12_search_112 (by decide) ?_
      refine r_iadd (y := m12_search) dX12_search_115 ?_
      refine r_istore_n (y := m12_search) (L' := [some (.ref 668), some (.int v1), some (.int v2), some (.int ((v3 * 1103515245) + 12345)), none, none]) dX12_search_116 rfl (Nat.le_of_ble_eq_true rfl) rfl ?_
      refine r_iload_n (y := m12_search) dX12_search_117 rfl rfl ?_
      refine r_bipush (y := m12_search) (v := 16) dX12_search_118 (by decide) ?_
      refine r_iushr (y := m12_search) (v := (((((v3 * 1103515245) + 12345)).toUInt32 >>> (Int32.toUInt32 (16) &&& Int32.toUInt32 31)).toInt32)) dX12_search_120 rfl ?_
      refine r_aload_n (y := m12_search) dX12_search_121 rfl rfl ?_
      refine g_X12_347 (y := m12_search) rfl dX12_search_122 hm ?_
      obtain ⟨h0, h⟩ := h
      refine r_irem (y := m12_search) dX12_search_125 h0 ?_
      refine r_istore (y := m12_search) (L' := [some (.ref 668), some (.int v1), some (.int v2), some (.int ((v3 * 1103515245) + 12345)), some (.int ((((((v3 * 1103515245) + 12345)).toUInt32 >>> (Int32.toUInt32 (16) &&& Int32.toUInt32 31)).toInt32) - (((((v3 * 1103515245) + 12345)).toUInt32 >>> (Int32.toUInt32 (16) &&& Int32.toUInt32 31)).toInt32) / (mI m 668 57) * (mI m 668 57))), none]) dX12_search_126 (Nat.le_of_ble_eq_true rfl) rfl ?_
      refine r_aload_n (y := m12_search) dX12_search_128 rfl rfl ?_
      refine r_iload_n (y := m12_search) dX12_search_129 rfl rfl ?_
      refine r_if_ne (y := m12_search) (tgt := 142) dX12_search_130 (by decide) (fun hc4 => ?_) (fun hc4 => ?_)
      · have h := h.1 hc4
        refine r_iload_n (y := m12_search) dX12_search_142 rfl rfl ?_
        refine r_iconst (y := m12_search) (v := 1) dX12_search_143 (by decide) ?_
        refine r_icmp_ne (y := m12_search) (tgt := 151) dX12_search_144 (by decide) (fun hc5 => ?_) (fun hc5 => ?_)
        · have h := h.1 hc5
          refine r_iload (y := m12_search) dX12_search_151 rfl ?_
          refine r_callV (y := m12_search) (As := [(.int ((((((v3 * 1103515245) + 12345)).toUInt32 >>> (Int32.toUInt32 (16) &&& Int32.toUInt32 31)).toInt32) - (((((v3 * 1103515245) + 12345)).toUInt32 >>> (Int32.toUInt32 (16) &&& Int32.toUInt32 31)).toInt32) / (mI m 668 57) * (mI m 668 57)))]) (b := 668) (ci := 12) dX12_search_153 rfl k12_takes lm_X12_354 rfl ⟨by decide, by decide⟩ (so_668 hm) (by decide) rfl (Nat.le_of_ble_eq_true rfl) (C.mono h ?_)
          rintro _ m6 ⟨rfl, hm7, h⟩
          refine ⟨none, rfl, ?_⟩
          refine r_aload_n (y := m12_search) dX12_search_156 rfl rfl ?_
          refine r_callV (y := m12_search) (As := []) (b := 668) (ci := 12) dX12_search_157 rfl k12_run lm_X12_357 rfl ⟨by decide, by decide⟩ (so_668 hm7) (by decide) rfl (Nat.le_of_ble_eq_true rfl) (C.mono h ?_)
          rintro _ m8 ⟨rfl, hm9, h⟩
          refine ⟨none, rfl, ?_⟩
          refine r_aload_n (y := m12_search) dX12_search_160 rfl rfl ?_
          refine g_X12_128 (y := m12_search) rfl dX12_search_161 hm9 ?_
          refine r_iconst (y := m12_search) (v := 4) dX12_search_164 (by decide) ?_
          refine r_dup2 (y := m12_search) dX12_search_165 ?_
          obtain ⟨hb10, h⟩ := h
          refine r_iald (y := m12_search) (n := 6) dX12_search_166 (sa_708 hm9) hb10 ?_
          refine r_iconst (y := m12_search) (v := 1) dX12_search_167 (by decide) ?_
          refine r_iadd (y := m12_search) dX12_search_168 ?_
          obtain ⟨hb11, h⟩ := h
          refine r_iast (y := m12_search) (n := 6) dX12_search_169 (sa_708 hm9) hb11 ?_
          refine r_aload_n (y := m12_search) dX12_search_170 rfl rfl ?_
          refine g_X12_245 (y := m12_search) rfl dX12_search_171 (St.i hm9) ?_
          refine V.top (b := (mI m8 668 29)) (by first | rfl | simp [mI_set, mI_setR]) ?_
          refine r_iconst (y := m12_search) (v := 5) dX12_search_174 (by decide) ?_
          refine r_icmp_ne (y := m12_search) (tgt := 221) dX12_search_175 (by decide) (fun hc12 => ?_) (fun hc12 => ?_)
          · have h := h.1 hc12
            refine r_aload_n (y := m12_search) dX12_search_221 rfl rfl ?_
            refine g_X12_128 (y := m12_search) rfl dX12_search_222 (St.i hm9) ?_
            refine r_aload_n (y := m12_search) dX12_search_225 rfl rfl ?_
            refine g_X12_245 (y := m12_search) rfl dX12_search_226 (St.i hm9) ?_
            refine V.top (b := (mI m8 668 29)) (by first | rfl | simp [mI_set, mI_setR]) ?_
            refine r_iconst (y := m12_search) (v := 1) dX12_search_229 (by decide) ?_
            refine r_isub (y := m12_search) dX12_search_230 ?_
            refine r_dup2 (y := m12_search) dX12_search_231 ?_
            obtain ⟨hb13, h⟩ := h
            refine r_iald (y := m12_search) (n := 6) dX12_search_232 (sa_708 (St.i hm9)) hb13 ?_
            refine r_iconst (y := m12_search) (v := 1) dX12_search_233 (by decide) ?_
            refine r_iadd (y := m12_search) dX12_search_234 ?_
            obtain ⟨hb14, h⟩ := h
            refine r_iast (y := m12_search) (n := 6) dX12_search_235 (sa_708 (St.i hm9)) hb14 ?_
            refine r_aload_n (y := m12_search) dX12_search_236 rfl rfl ?_
            refine g_X12_245 (y := m12_search) rfl dX12_search_237 (St.i (St.i hm9)) ?_
            refine V.top (b := (mI m8 668 29)) (by first | rfl | simp [mI_set, mI_setR]) ?_
            refine r_iconst (y := m12_search) (v := 1) dX12_search_240 (by decide) ?_
            refine r_icmp_ne (y := m12_search) (tgt := 257) dX12_search_241 (by decide) (fun hc15 => ?_) (fun hc15 => ?_)
            · have h := h.1 hc15
              exact h
            · have h := h.2 hc15
              refine r_aload_n (y := m12_search) dX12_search_244 rfl rfl ?_
              refine g_X12_224 (y := m12_search) rfl dX12_search_245 (St.i (St.i hm9)) ?_
              refine V.top (b := (mI m8 668 50)) (by first | rfl | simp [mI_set, mI_setR]) ?_
              refine r_bipush (y := m12_search) (v := 10) dX12_search_248 (by decide) ?_
              refine r_icmp_ge (y := m12_search) (tgt := 257) dX12_search_250 (by decide) (fun hc16 => ?_) (fun hc16 => ?_)
              · have h := h.1 hc16
                exact h
              · have h := h.2 hc16
                refine r_aload_n (y := m12_search) dX12_search_253 rfl rfl ?_
                refine r_callV (y := m12_search) (As := []) (b := 668) (ci := 12) dX12_search_254 rfl k12_keepValue lm_X12_360 rfl ⟨by decide, by decide⟩ (so_668 (St.i (St.i hm9))) (by decide) rfl (Nat.le_of_ble_eq_true rfl) (C.mono h ?_)
                rintro _ m17 ⟨rfl, hm18, h⟩
                refine ⟨none, rfl, ?_⟩
                exact h
          · have h := h.2 hc12
            refine r_iconst (y := m12_search) (v := 0) dX12_search_178 (by decide) ?_
            refine r_istore (y := m12_search) (L' := [some (.ref 668), some (.int v1), some (.int v2), some (.int ((v3 * 1103515245) + 12345)), some (.int ((((((v3 * 1103515245) + 12345)).toUInt32 >>> (Int32.toUInt32 (16) &&& Int32.toUInt32 31)).toInt32) - (((((v3 * 1103515245) + 12345)).toUInt32 >>> (Int32.toUInt32 (16) &&& Int32.toUInt32 31)).toInt32) / (mI m 668 57) * (mI m 668 57))), some (.int 0)]) dX12_search_179 (Nat.le_of_ble_eq_true rfl) rfl ?_
            exact h
        · have h := h.2 hc5
          refine r_iconst (y := m12_search) (v := 0) dX12_search_147 (by decide) ?_
          refine r_goto (y := m12_search) (tgt := 153) dX12_search_148 (by decide) ?_
          refine r_callV (y := m12_search) (As := [(.int 0)]) (b := 668) (ci := 12) dX12_search_153 rfl k12_takes lm_X12_354 rfl ⟨by decide, by decide⟩ (so_668 hm) (by decide) rfl (Nat.le_of_ble_eq_true rfl) (C.mono h ?_)
          rintro _ m19 ⟨rfl, hm20, h⟩
          refine ⟨none, rfl, ?_⟩
          refine r_aload_n (y := m12_search) dX12_search_156 rfl rfl ?_
          refine r_callV (y := m12_search) (As := []) (b := 668) (ci := 12) dX12_search_157 rfl k12_run lm_X12_357 rfl ⟨by decide, by decide⟩ (so_668 hm20) (by decide) rfl (Nat.le_of_ble_eq_true rfl) (C.mono h ?_)
          rintro _ m21 ⟨rfl, hm22, h⟩
          refine ⟨none, rfl, ?_⟩
          refine r_aload_n (y := m12_search) dX12_search_160 rfl rfl ?_
          refine g_X12_128 (y := m12_search) rfl dX12_search_161 hm22 ?_
          refine r_iconst (y := m12_search) (v := 4) dX12_search_164 (by decide) ?_
          refine r_dup2 (y := m12_search) dX12_search_165 ?_
          obtain ⟨hb23, h⟩ := h
          refine r_iald (y := m12_search) (n := 6) dX12_search_166 (sa_708 hm22) hb23 ?_
          refine r_iconst (y := m12_search) (v := 1) dX12_search_167 (by decide) ?_
          refine r_iadd (y := m12_search) dX12_search_168 ?_
          obtain ⟨hb24, h⟩ := h
          refine r_iast (y := m12_search) (n := 6) dX12_search_169 (sa_708 hm22) hb24 ?_
          refine r_aload_n (y := m12_search) dX12_search_170 rfl rfl ?_
          refine g_X12_245 (y := m12_search) rfl dX12_search_171 (St.i hm22) ?_
          refine V.top (b := (mI m21 668 29)) (by first | rfl | simp [mI_set, mI_setR]) ?_
          refine r_iconst (y := m12_search) (v := 5) dX12_search_174 (by decide) ?_
          refine r_icmp_ne (y := m12_search) (tgt := 221) dX12_search_175 (by decide) (fun hc25 => ?_) (fun hc25 => ?_)
          · have h := h.1 hc25
            refine r_aload_n (y := m12_search) dX12_search_221 rfl rfl ?_
            refine g_X12_128 (y := m12_search) rfl dX12_search_222 (St.i hm22) ?_
            refine r_aload_n (y := m12_search) dX12_search_225 rfl rfl ?_
            refine g_X12_245 (y := m12_search) rfl dX12_search_226 (St.i hm22) ?_
            refine V.top (b := (mI m21 668 29)) (by first | rfl | simp [mI_set, mI_setR]) ?_
            refine r_iconst (y := m12_search) (v := 1) dX12_search_229 (by decide) ?_
            refine r_isub (y := m12_search) dX12_search_230 ?_
            refine r_dup2 (y := m12_search) dX12_search_231 ?_
            obtain ⟨hb26, h⟩ := h
            refine r_iald (y := m12_search) (n := 6) dX12_search_232 (sa_708 (St.i hm22)) hb26 ?_
            refine r_iconst (y := m12_search) (v := 1) dX12_search_233 (by decide) ?_
            refine r_iadd (y := m12_search) dX12_search_234 ?_
            obtain ⟨hb27, h⟩ := h
            refine r_iast (y := m12_search) (n := 6) dX12_search_235 (sa_708 (St.i hm22)) hb27 ?_
            refine r_aload_n (y := m12_search) dX12_search_236 rfl rfl ?_
            refine g_X12_245 (y := m12_search) rfl dX12_search_237 (St.i (St.i hm22)) ?_
            refine V.top (b := (mI m21 668 29)) (by first | rfl | simp [mI_set, mI_setR]) ?_
            refine r_iconst (y := m12_search) (v := 1) dX12_search_240 (by decide) ?_
            refine r_icmp_ne (y := m12_search) (tgt := 257) dX12_search_241 (by decide) (fun hc28 => ?_) (fun hc28 => ?_)
            · have h := h.1 hc28
              exact h
            · have h := h.2 hc28
              refine r_aload_n (y := m12_search) dX12_search_244 rfl rfl ?_
              refine g_X12_224 (y := m12_search) rfl dX12_search_245 (St.i (St.i hm22)) ?_
              refine V.top (b := (mI m21 668 50)) (by first | rfl | simp [mI_set, mI_setR]) ?_
              refine r_bipush (y := m12_search) (v := 10) dX12_search_248 (by decide) ?_
              refine r_icmp_ge (y := m12_search) (tgt := 257) dX12_search_250 (by decide) (fun hc29 => ?_) (fun hc29 => ?_)
              · have h := h.1 hc29
                exact h
              · have h := h.2 hc29
                refine r_aload_n (y := m12_search) dX12_search_253 rfl rfl ?_
                refine r_callV (y := m12_search) (As := []) (b := 668) (ci := 12) dX12_search_254 rfl k12_keepValue lm_X12_360 rfl ⟨by decide, by decide⟩ (so_668 (St.i (St.i hm22))) (by decide) rfl (Nat.le_of_ble_eq_true rfl) (C.mono h ?_)
                rintro _ m30 ⟨rfl, hm31, h⟩
                refine ⟨none, rfl, ?_⟩
                exact h
          · have h := h.2 hc25
            refine r_iconst (y := m12_search) (v := 0) dX12_search_178 (by decide) ?_
            refine r_istore (y := m12_search) (L' := [some (.ref 668), some (.int v1), some (.int v2), some (.int ((v3 * 1103515245) + 12345)), some (.int ((((((v3 * 1103515245) + 12345)).toUInt32 >>> (Int32.toUInt32 (16) &&& Int32.toUInt32 31)).toInt32) - (((((v3 * 1103515245) + 12345)).toUInt32 >>> (Int32.toUInt32 (16) &&& Int32.toUInt32 31)).toInt32) / (mI m 668 57) * (mI m 668 57))), some (.int 0)]) dX12_search_179 (Nat.le_of_ble_eq_true rfl) rfl ?_
            exact h
      · have h := h.2 hc4
        refine r_aload_n (y := m12_search) dX12_search_133 rfl rfl ?_
        refine g_X12_347 (y := m12_search) rfl dX12_search_134 hm ?_
        refine r_iconst (y := m12_search) (v := 1) dX12_search_137 (by decide) ?_
        refine r_isub (y := m12_search) dX12_search_138 ?_
        refine r_goto (y := m12_search) (tgt := 153) dX12_search_139 (by decide) ?_
        refine r_callV (y := m12_search) (As := [(.int ((mI m 668 57) - 1))]) (b := 668) (ci := 12) dX12_search_153 rfl k12_takes lm_X12_354 rfl ⟨by decide, by decide⟩ (so_668 hm) (by decide) rfl (Nat.le_of_ble_eq_true rfl) (C.mono h ?_)
        rintro _ m32 ⟨rfl, hm33, h⟩
        refine ⟨none, rfl, ?_⟩
        refine r_aload_n (y := m12_search) dX12_search_156 rfl rfl ?_
        refine r_callV (y := m12_search) (As := []) (b := 668) (ci := 12) dX12_search_157 rfl k12_run lm_X12_357 rfl ⟨by decide, by decide⟩ (so_668 hm33) (by decide) rfl (Nat.le_of_ble_eq_true rfl) (C.mono h ?_)
        rintro _ m34 ⟨rfl, hm35, h⟩
        refine ⟨none, rfl, ?_⟩
        refine r_aload_n (y := m12_search) dX12_search_160 rfl rfl ?_
        refine g_X12_128 (y := m12_search) rfl dX12_search_161 hm35 ?_
        refine r_iconst (y := m12_search) (v := 4) dX12_search_164 (by decide) ?_
        refine r_dup2 (y := m12_search) dX12_search_165 ?_
        obtain ⟨hb36, h⟩ := h
        refine r_iald (y := m12_search) (n := 6) dX12_search_166 (sa_708 hm35) hb36 ?_
        refine r_iconst (y := m12_search) (v := 1) dX12_search_167 (by decide) ?_
        refine r_iadd (y := m12_search) dX12_search_168 ?_
        obtain ⟨hb37, h⟩ := h
        refine r_iast (y := m12_search) (n := 6) dX12_search_169 (sa_708 hm35) hb37 ?_
        refine r_aload_n (y := m12_search) dX12_search_170 rfl rfl ?_
        refine g_X12_245 (y := m12_search) rfl dX12_search_171 (St.i hm35) ?_
        refine V.top (b := (mI m34 668 29)) (by first | rfl | simp [mI_set, mI_setR]) ?_
        refine r_iconst (y := m12_search) (v := 5) dX12_search_174 (by decide) ?_
        refine r_icmp_ne (y := m12_search) (tgt := 221) dX12_search_175 (by decide) (fun hc38 => ?_) (fun hc38 => ?_)
        · have h := h.1 hc38
          refine r_aload_n (y := m12_search) dX12_search_221 rfl rfl ?_
          refine g_X12_128 (y := m12_search) rfl dX12_search_222 (St.i hm35) ?_
          refine r_aload_n (y := m12_search) dX12_search_225 rfl rfl ?_
          refine g_X12_245 (y := m12_search) rfl dX12_search_226 (St.i hm35) ?_
          refine V.top (b := (mI m34 668 29)) (by first | rfl | simp [mI_set, mI_setR]) ?_
          refine r_iconst (y := m12_search) (v := 1) dX12_search_229 (by decide) ?_
          refine r_isub (y := m12_search) dX12_search_230 ?_
          refine r_dup2 (y := m12_search) dX12_search_231 ?_
          obtain ⟨hb39, h⟩ := h
          refine r_iald (y := m12_search) (n := 6) dX12_search_232 (sa_708 (St.i hm35)) hb39 ?_
          refine r_iconst (y := m12_search) (v := 1) dX12_search_233 (by decide) ?_
          refine r_iadd (y := m12_search) dX12_search_234 ?_
          obtain ⟨hb40, h⟩ := h
          refine r_iast (y := m12_search) (n := 6) dX12_search_235 (sa_708 (St.i hm35)) hb40 ?_
          refine r_aload_n (y := m12_search) dX12_search_236 rfl rfl ?_
          refine g_X12_245 (y := m12_search) rfl dX12_search_237 (St.i (St.i hm35)) ?_
          refine V.top (b := (mI m34 668 29)) (by first | rfl | simp [mI_set, mI_setR]) ?_
          refine r_iconst (y := m12_search) (v := 1) dX12_search_240 (by decide) ?_
          refine r_icmp_ne (y := m12_search) (tgt := 257) dX12_search_241 (by decide) (fun hc41 => ?_) (fun hc41 => ?_)
          · have h := h.1 hc41
            exact h
          · have h := h.2 hc41
            refine r_aload_n (y := m12_search) dX12_search_244 rfl rfl ?_
            refine g_X12_224 (y := m12_search) rfl dX12_search_245 (St.i (St.i hm35)) ?_
            refine V.top (b := (mI m34 668 50)) (by first | rfl | simp [mI_set, mI_setR]) ?_
            refine r_bipush (y := m12_search) (v := 10) dX12_search_248 (by decide) ?_
            refine r_icmp_ge (y := m12_search) (tgt := 257) dX12_search_250 (by decide) (fun hc42 => ?_) (fun hc42 => ?_)
            · have h := h.1 hc42
              exact h
            · have h := h.2 hc42
              refine r_aload_n (y := m12_search) dX12_search_253 rfl rfl ?_
              refine r_callV (y := m12_search) (As := []) (b := 668) (ci := 12) dX12_search_254 rfl k12_keepValue lm_X12_360 rfl ⟨by decide, by decide⟩ (so_668 (St.i (St.i hm35))) (by decide) rfl (Nat.le_of_ble_eq_true rfl) (C.mono h ?_)
              rintro _ m43 ⟨rfl, hm44, h⟩
              refine ⟨none, rfl, ?_⟩
              exact h
        · have h := h.2 hc38
          refine r_iconst (y := m12_search) (v := 0) dX12_search_178 (by decide) ?_
          refine r_istore (y := m12_search) (L' := [some (.ref 668), some (.int v1), some (.int v2), some (.int ((v3 * 1103515245) + 12345)), some (.int ((((((v3 * 1103515245) + 12345)).toUInt32 >>> (Int32.toUInt32 (16) &&& Int32.toUInt32 31)).toInt32) - (((((v3 * 1103515245) + 12345)).toUInt32 >>> (Int32.toUInt32 (16) &&& Int32.toUInt32 31)).toInt32) / (mI m 668 57) * (mI m 668 57))), some (.int 0)]) dX12_search_179 (Nat.le_of_ble_eq_true rfl) rfl ?_
          exact h
