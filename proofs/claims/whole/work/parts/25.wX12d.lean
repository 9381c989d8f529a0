/-! written by gen/drive.py -/
set_option maxHeartbeats 4000000 in
set_option maxRecDepth 100000 in
theorem w12_kindOf {m : Mm} {K : Option Value ⊕ String → Mm → Prop} (hm : St m) {a0 : Int32}  (h : ((20 ≤ a0 → ((30 ≤ a0 → K (.inl (some (.int ((3 + a0) - 30)))) m) ∧ (¬ 30 ≤ a0 → K (.inl (some (.int 2))) m))) ∧ (¬ 20 ≤ a0 → K (.inl (some (.int 1))) m))) : V m12_kindOf 0 [some (.int a0)] [] m K := by
  refine r_iload_n (y := m12_kindOf) dX12_kindOf_0 rfl rfl ?_
  refine r_bipush (y := m12_kindOf) (v := 20) dX12_kindOf_1 (by decide) ?_
  refine r_icmp_ge (y := m12_kindOf) (tgt := 10) dX12_kindOf_3 (by decide) (fun hc1 => ?_) (fun hc1 => ?_)
  · have h := h.1 hc1
    refine r_iload_n (y := m12_kindOf) dX12_kindOf_10 rfl rfl ?_
    refine r_bipush (y := m12_kindOf) (v := 30) dX12_kindOf_11 (by decide) ?_
    refine r_icmp_ge (y := m12_kindOf) (tgt := 20) dX12_kindOf_13 (by decide) (fun hc2 => ?_) (fun hc2 => ?_)
    · have h := h.1 hc2
      refine r_iconst (y := m12_kindOf) (v := 3) dX12_kindOf_20 (by decide) ?_
      refine r_iload_n (y := m12_kindOf) dX12_kindOf_21 rfl rfl ?_
      refine r_iadd (y := m12_kindOf) dX12_kindOf_22 ?_
      refine r_bipush (y := m12_kindOf) (v := 30) dX12_kindOf_23 (by decide) ?_
      refine r_isub (y := m12_kindOf) dX12_kindOf_25 ?_
      exact r_iret (y := m12_kindOf) dX12_kindOf_26 rfl rfl h
    · have h := h.2 hc2
      refine r_iconst (y := m12_kindOf) (v := 2) dX12_kindOf_16 (by decide) ?_
      refine r_goto (y := m12_kindOf) (tgt := 26) dX12_kindOf_17 (by decide) ?_
      exact r_iret (y := m12_kindOf) dX12_kindOf_26 rfl rfl h
  · have h := h.2 hc1
    refine r_iconst (y := m12_kindOf) (v := 1) dX12_kindOf_6 (by decide) ?_
    refine r_goto (y := m12_kindOf) (tgt := 26) dX12_kindOf_7 (by decide) ?_
    exact r_iret (y := m12_kindOf) dX12_kindOf_26 rfl rfl h
set_option maxHeartbeats 4000000 in
set_option maxRecDepth 100000 in
theorem w12_make {m : Mm} {K : Option Value ⊕ String → Mm → Prop} (hm : St m) {a0 : Int32} {a1 : Int32} {a2 : Int32}  (h : V m12_make 12 [some (.ref 668), some (.int a0), some (.int a1), some (.int a2), some (.int (-1)), some (.int 0), some (.int a0), some (.int 1), none, none, none, none] [] m K) : V m12_make 0 [some (.ref 668), some (.int a0), some (.int a1), some (.int a2), none, none, none, none, none, none, none, none] [] m K := by
  refine r_iconst (y := m12_make) (v := (-1)) dX12_make_0 (by decide) ?_
  refine r_istore (y := m12_make) (L' := [some (.ref 668), some (.int a0), some (.int a1), some (.int a2), some (.int (-1)), none, none, none, none, none, none, none]) dX12_make_1 (Nat.le_of_ble_eq_true rfl) rfl ?_
  refine r_iconst (y := m12_make) (v := 0) dX12_make_3 (by decide) ?_
  refine r_istore (y := m12_make) (L' := [some (.ref 668), some (.int a0), some (.int a1), some (.int a2), some (.int (-1)), some (.int 0), none, none, none, none, none, none]) dX12_make_4 (Nat.le_of_ble_eq_true rfl) rfl ?_
  refine r_iload_n (y := m12_make) dX12_make_6 rfl rfl ?_
  refine r_istore (y := m12_make) (L' := [some (.ref 668), some (.int a0), some (.int a1), some (.int a2), some (.int (-1)), some (.int 0), some (.int a0), none, none, none, none, none]) dX12_make_7 (Nat.le_of_ble_eq_true rfl) rfl ?_
  refine r_iconst (y := m12_make) (v := 1) dX12_make_9 (by decide) ?_
  refine r_istore (y := m12_make) (L' := [some (.ref 668), some (.int a0), some (.int a1), some (.int a2), some (.int (-1)), some (.int 0), some (.int a0), some (.int 1), none, none, none, none]) dX12_make_10 (Nat.le_of_ble_eq_true rfl) rfl ?_
  exact h
set_option maxHeartbeats 4000000 in
set_option maxRecDepth 100000 in
theorem w12_make_12 {m : Mm} {K : Option Value ⊕ String → Mm → Prop} (hm : St m) {v1 : Int32} {v2 : Int32} {v3 : Int32} {v4 : Int32} {v5 : Int32} {v6 : Int32} {v7 : Int32}  (h : ((v7 = 0 → K (.inl (some (.int v4))) m) ∧ (¬ v7 = 0 → vp_in v6 876 ∧ ((10 ≤ (mI m 676 (Int32.toNatClampNeg v6)) → C m12_kindOf [(.int (mI m 676 (Int32.toNatClampNeg v6)))] m (fun o m4 => ∃ x6 : Int32, o = .inl (some (.int x6)) ∧ St m4 ∧ ((20 ≤ (mI m 676 (Int32.toNatClampNeg v6)) → C m12_newThing [(.ref 668), (.int x6), (.int ((mI m 676 (Int32.toNatClampNeg v6)) - 20)), (.int v3)] m4 (fun o m8 => ∃ x10 : Int32, o = .inl (some (.int x10)) ∧ St m8 ∧ ((¬ (mI m 676 (Int32.toNatClampNeg v6)) = 33 → C m12_partsOf [(.ref 668), (.int (mI m 676 (Int32.toNatClampNeg v6)))] m8 (fun o m12 => ∃ x14 : Int32, o = .inl (some (.int x14)) ∧ St m12 ∧ ((¬ (mI m 676 (Int32.toNatClampNeg v6)) = 33 → V m12_make 125 [some (.ref 668), some (.int v1), some (.int v2), some (.int v3), some (.int v4), some (.int v5), some (.int v6), some (.int v7), some (.int (mI m 676 (Int32.toNatClampNeg v6))), some (.int x10), some (.int x14), none] [] m12 K) ∧ ((mI m 676 (Int32.toNatClampNeg v6)) = 33 → vp_in x10 6000 ∧ vp_in x10 6000 ∧ V m12_make 125 [some (.ref 668), some (.int v1), some (.int v2), some (.int v3), some (.int v4), some (.int v5), some (.int v6), some (.int v7), some (.int (mI m 676 (Int32.toNatClampNeg v6))), some (.int x10), some (.int x14), none] [] (mSetI (mSetI m12 678 (Int32.toNatClampNeg x10) (v6 + 1)) 682 (Int32.toNatClampNeg x10) v2) K)))) ∧ ((mI m 676 (Int32.toNatClampNeg v6)) = 33 → ((¬ (mI m 676 (Int32.toNatClampNeg v6)) = 33 → V m12_make 125 [some (.ref 668), some (.int v1), some (.int v2), some (.int v3), some (.int v4), some (.int v5), some (.int v6), some (.int v7), some (.int (mI m 676 (Int32.toNatClampNeg v6))), some (.int x10), some (.int 0), none] [] m8 K) ∧ ((mI m 676 (Int32.toNatClampNeg v6)) = 33 → vp_in x10 6000 ∧ vp_in x10 6000 ∧ V m12_make 125 [some (.ref 668), some (.int v1), some (.int v2), some (.int v3), some (.int v4), some (.int v5), some (.int v6), some (.int v7), some (.int (mI m 676 (Int32.toNatClampNeg v6))), some (.int x10), some (.int 0), none] [] (mSetI (mSetI m8 678 (Int32.toNatClampNeg x10) (v6 + 1)) 682 (Int32.toNatClampNeg x10) v2) K)))))) ∧ (¬ 20 ≤ (mI m 676 (Int32.toNatClampNeg v6)) → C m12_newThing [(.ref 668), (.int x6), (.int ((mI m 676 (Int32.toNatClampNeg v6)) - 10)), (.int v3)] m4 (fun o m21 => ∃ x23 : Int32, o = .inl (some (.int x23)) ∧ St m21 ∧ ((¬ (mI m 676 (Int32.toNatClampNeg v6)) = 33 → C m12_partsOf [(.ref 668), (.int (mI m 676 (Int32.toNatClampNeg v6)))] m21 (fun o m25 => ∃ x27 : Int32, o = .inl (some (.int x27)) ∧ St m25 ∧ ((¬ (mI m 676 (Int32.toNatClampNeg v6)) = 33 → V m12_make 125 [some (.ref 668), some (.int v1), some (.int v2), some (.int v3), some (.int v4), some (.int v5), some (.int v6), some (.int v7), some (.int (mI m 676 (Int32.toNatClampNeg v6))), some (.int x23), some (.int x27), none] [] m25 K) ∧ ((mI m 676 (Int32.toNatClampNeg v6)) = 33 → vp_in x23 6000 ∧ vp_in x23 6000 ∧ V m12_make 125 [some (.ref 668), some (.int v1), some (.int v2), some (.int v3), some (.int v4), some (.int v5), some (.int v6), some (.int v7), some (.int (mI m 676 (Int32.toNatClampNeg v6))), some (.int x23), some (.int x27), none] [] (mSetI (mSetI m25 678 (Int32.toNatClampNeg x23) (v6 + 1)) 682 (Int32.toNatClampNeg x23) v2) K)))) ∧ ((mI m 676 (Int32.toNatClampNeg v6)) = 33 → ((¬ (mI m 676 (Int32.toNatClampNeg v6)) = 33 → V m12_make 125 [some (.ref 668), some (.int v1), some (.int v2), some (.int v3), some (.int v4), some (.int v5), some (.int v6), some (.int v7), some (.int (mI m 676 (Int32.toNatClampNeg v6))), some (.int x23), some (.int 0), none] [] m21 K) ∧ ((mI m 676 (Int32.toNatClampNeg v6)) = 33 → vp_in x23 6000 ∧ vp_in x23 6000 ∧ V m12_make 125 [some (.ref 668), some (.int v1), some (.int v2), some (.int v3), some (.int v4), some (.int v5), some (.int v6), some (.int v7), some (.int (mI m 676 (Int32.toNatClampNeg v6))), some (.int x23), some (.int 0), none] [] (mSetI (mSetI m21 678 (Int32.toNatClampNeg x23) (v6 + 1)) 682 (Int32.toNatClampNeg x23) v2) K))))))))) ∧ (¬ 10 ≤ (mI m 676 (Int32.toNatClampNeg v6)) → vp_in ((6 * v2) + (mI m 676 (Int32.toNatClampNeg v6))) 1200 ∧ ((¬ (mI m 676 (Int32.toNatClampNeg v6)) = 33 → C m12_partsOf [(.ref 668), (.int (mI m 676 (Int32.toNatClampNeg v6)))] m (fun o m36 => ∃ x38 : Int32, o = .inl (some (.int x38)) ∧ St m36 ∧ ((¬ (mI m 676 (Int32.toNatClampNeg v6)) = 33 → V m12_make 125 [some (.ref 668), some (.int v1), some (.int v2), some (.int v3), some (.int v4), some (.int v5), some (.int v6), some (.int v7), some (.int (mI m 676 (Int32.toNatClampNeg v6))), some (.int (mI m 685 (Int32.toNatClampNeg ((6 * v2) + (mI m 676 (Int32.toNatClampNeg v6)))))), some (.int x38), none] [] m36 K) ∧ ((mI m 676 (Int32.toNatClampNeg v6)) = 33 → vp_in (mI m 685 (Int32.toNatClampNeg ((6 * v2) + (mI m 676 (Int32.toNatClampNeg v6))))) 6000 ∧ vp_in (mI m 685 (Int32.toNatClampNeg ((6 * v2) + (mI m 676 (Int32.toNatClampNeg v6))))) 6000 ∧ V m12_make 125 [some (.ref 668), some (.int v1), some (.int v2), some (.int v3), some (.int v4), some (.int v5), some (.int v6), some (.int v7), some (.int (mI m 676 (Int32.toNatClampNeg v6))), some (.int (mI m 685 (Int32.toNatClampNeg ((6 * v2) + (mI m 676 (Int32.toNatClampNeg v6)))))), some (.int x38), none] [] (mSetI (mSetI m36 678 (Int32.toNatClampNeg (mI m 685 (Int32.toNatClampNeg ((6 * v2) + (mI m 676 (Int32.toNatClampNeg v6)))))) (v6 + 1)) 682 (Int32.toNatClampNeg (mI m 685 (Int32.toNatClampNeg ((6 * v2) + (mI m 676 (Int32.toNatClampNeg v6)))))) v2) K)))) ∧ ((mI m 676 (Int32.toNatClampNeg v6)) = 33 → ((¬ (mI m 676 (Int32.toNatClampNeg v6)) = 33 → V m12_make 125 [some (.ref 668), some (.int v1), some (.int v2), some (.int v3), some (.int v4), some (.int v5), some (.int v6), some (.int v7), some (.int (mI m 676 (Int32.toNatClampNeg v6))), some (.int (mI m 685 (Int32.toNatClampNeg ((6 * v2) + (mI m 676 (Int32.toNatClampNeg v6)))))), some (.int 0), none] [] m K) ∧ ((mI m 676 (Int32.toNatClampNeg v6)) = 33 → vp_in (mI m 685 (Int32.toNatClampNeg ((6 * v2) + (mI m 676 (Int32.toNatClampNeg v6))))) 6000 ∧ vp_in (mI m 685 (Int32.toNatClampNeg ((6 * v2) + (mI m 676 (Int32.toNatClampNeg v6))))) 6000 ∧ V m12_make 125 [some (.ref 668), some (.int v1), some (.int v2), some (.int v3), some (.int v4), some (.int v5), some (.int v6), some (.int v7), some (.int (mI m 676 (Int32.toNatClampNeg v6))), some (.int (mI m 685 (Int32.toNatClampNeg ((6 * v2) + (mI m 676 (Int32.toNatClampNeg v6)))))), some (.int 0), none] [] (mSetI (mSetI m 678 (Int32.toNatClampNeg (mI m 685 (Int32.toNatClampNeg ((6 * v2) + (mI m 676 (Int32.toNatClampNeg v6)))))) (v6 + 1)) 682 (Int32.toNatClampNeg (mI m 685 (Int32.toNatClampNeg ((6 * v2) + (mI m 676 (Int32.toNatClampNeg v6)))))) v2) K))))))))) : V m12_make 12 [some (.ref 668), some (.int v1), some (.int v2), some (.int v3), some (.int v4), some (.int v5), some (.int v6), some (.int v7), none, none, none, none] [] m K := by
  refine r_iload (y := m12_make) dX12_make_12 rfl ?_
  refine r_if_eq (y := m12_make) (tgt := 324) dX12_make_14 (by decide) (fun hc1 => ?_) (fun hc1 => ?_)
  · have h := h.1 hc1
    refine r_iload (y := m12_make) dX12_make_324 rfl ?_
    exact r_iret (y := m12_make) dX12_make_326 rfl rfl h
  · have h := h.2 hc1
    refine r_aload_n (y := m12_make) dX12_make_17 rfl rfl ?_
    refine g_X12_32 (y := m12_make) rfl dX12_make_18 hm ?_
    refine r_iload (y := m12_make) dX12_make_21 rfl ?_
    obtain ⟨hb2, h⟩ := h
    refine r_iald (y := m12_make) (n := 876) dX12_make_23 (sa_676 hm) hb2 ?_
    refine r_istore (y := m12_make) (L' := [some (.ref 668), some (.int v1), some (.int v2), some (.int v3), some (.int v4), some (.int v5), some (.int v6), some (.int v7), some (.int (mI m 676 (Int32.toNatClampNeg v6))), none, none, none]) dX12_make_24 (Nat.le_of_ble_eq_true rfl) rfl ?_
    refine r_iload (y := m12_make) dX12_make_26 rfl ?_
    refine r_bipush (y := m12_make) (v := 10) dX12_make_28 (by decide) ?_
    refine r_icmp_ge (y := m12_make) (tgt := 48) dX12_make_30 (by decide) (fun hc3 => ?_) (fun hc3 => ?_)
    · have h := h.1 hc3
      refine r_aload_n (y := m12_make) dX12_make_48 rfl rfl ?_
      refine r_iload (y := m12_make) dX12_make_49 rfl ?_
      refine r_callS (y := m12_make) (As := [(.int (mI m 676 (Int32.toNatClampNeg v6)))]) dX12_make_51 rfl k12_kindOf lm_X12_236 rfl ⟨by decide, by decide⟩ (Nat.le_of_ble_eq_true rfl) (C.mono h ?_)
      rintro _ m4 ⟨x6, rfl, hm5, h⟩
      refine ⟨_, rfl, ?_⟩
      refine r_iload (y := m12_make) dX12_make_54 rfl ?_
      refine r_bipush (y := m12_make) (v := 20) dX12_make_56 (by decide) ?_
      refine r_icmp_ge (y := m12_make) (tgt := 69) dX12_make_58 (by decide) (fun hc7 => ?_) (fun hc7 => ?_)
      · have h := h.1 hc7
        refine r_iload (y := m12_make) dX12_make_69 rfl ?_
        refine r_bipush (y := m12_make) (v := 20) dX12_make_71 (by decide) ?_
        refine r_isub (y := m12_make) dX12_make_73 ?_
        refine r_iload_n (y := m12_make) dX12_make_74 rfl rfl ?_
        refine r_callV (y := m12_make) (As := [(.int x6), (.int ((mI m 676 (Int32.toNatClampNeg v6)) - 20)), (.int v3)]) (b := 668) (ci := 12) dX12_make_75 rfl k12_newThing lm_X12_233 rfl ⟨by decide, by decide⟩ (so_668 hm5) (by decide) rfl (Nat.le_of_ble_eq_true rfl) (C.mono h ?_)
        rintro _ m8 ⟨x10, rfl, hm9, h⟩
        refine ⟨_, rfl, ?_⟩
        refine r_istore (y := m12_make) (L' := [some (.ref 668), some (.int v1), some (.int v2), some (.int v3), some (.int v4), some (.int v5), some (.int v6), some (.int v7), some (.int (mI m 676 (Int32.toNatClampNeg v6))), some (.int x10), none, none]) dX12_make_78 (Nat.le_of_ble_eq_true rfl) rfl ?_
        refine r_iload (y := m12_make) dX12_make_80 rfl ?_
        refine r_bipush (y := m12_make) (v := 33) dX12_make_82 (by decide) ?_
        refine r_icmp_ne (y := m12_make) (tgt := 91) dX12_make_84 (by decide) (fun hc11 => ?_) (fun hc11 => ?_)
        · have h := h.1 hc11
          refine r_aload_n (y := m12_make) dX12_make_91 rfl rfl ?_
          refine r_iload (y := m12_make) dX12_make_92 rfl ?_
          refine r_callV (y := m12_make) (As := [(.int (mI m 676 (Int32.toNatClampNeg v6)))]) (b := 668) (ci := 12) dX12_make_94 rfl k12_partsOf lm_X12_161 rfl ⟨by decide, by decide⟩ (so_668 hm9) (by decide) rfl (Nat.le_of_ble_eq_true rfl) (C.mono h ?_)
          rintro _ m12 ⟨x14, rfl, hm13, h⟩
          refine ⟨_, rfl, ?_⟩
          refine r_istore (y := m12_make) (L' := [some (.ref 668), some (.int v1), some (.int v2), some (.int v3), some (.int v4), some (.int v5), some (.int v6), some (.int v7), some (.int (mI m 676 (Int32.toNatClampNeg v6))), some (.int x10), some (.int x14), none]) dX12_make_97 (Nat.le_of_ble_eq_true rfl) rfl ?_
          refine r_iload (y := m12_make) dX12_make_99 rfl ?_
          refine r_bipush (y := m12_make) (v := 33) dX12_make_101 (by decide) ?_
          refine r_icmp_ne (y := m12_make) (tgt := 125) dX12_make_103 (by decide) (fun hc15 => ?_) (fun hc15 => ?_)
          · have h := h.1 hc15
            exact h
          · have h := h.2 hc15
            refine r_aload_n (y := m12_make) dX12_make_106 rfl rfl ?_
            refine g_X12_38 (y := m12_make) rfl dX12_make_107 hm13 ?_
            refine r_iload (y := m12_make) dX12_make_110 rfl ?_
            refine r_iload (y := m12_make) dX12_make_112 rfl ?_
            refine r_iconst (y := m12_make) (v := 1) dX12_make_114 (by decide) ?_
            refine r_iadd (y := m12_make) dX12_make_115 ?_
            obtain ⟨hb16, h⟩ := h
            refine r_iast (y := m12_make) (n := 6000) dX12_make_116 (sa_678 hm13) hb16 ?_
            refine r_aload_n (y := m12_make) dX12_make_117 rfl rfl ?_
            refine g_X12_50 (y := m12_make) rfl dX12_make_118 (St.i hm13) ?_
            refine r_iload (y := m12_make) dX12_make_121 rfl ?_
            refine r_iload_n (y := m12_make) dX12_make_123 rfl rfl ?_
            obtain ⟨hb17, h⟩ := h
            refine r_iast (y := m12_make) (n := 6000) dX12_make_124 (sa_682 (St.i hm13)) hb17 ?_
            exact h
        · have h := h.2 hc11
          refine r_iconst (y := m12_make) (v := 0) dX12_make_87 (by decide) ?_
          refine r_goto (y := m12_make) (tgt := 97) dX12_make_88 (by decide) ?_
          refine r_istore (y := m12_make) (L' := [some (.ref 668), some (.int v1), some (.int v2), some (.int v3), some (.int v4), some (.int v5), some (.int v6), some (.int v7), some (.int (mI m 676 (Int32.toNatClampNeg v6))), some (.int x10), some (.int 0), none]) dX12_make_97 (Nat.le_of_ble_eq_true rfl) rfl ?_
          refine r_iload (y := m12_make) dX12_make_99 rfl ?_
          refine r_bipush (y := m12_make) (v := 33) dX12_make_101 (by decide) ?_
          refine r_icmp_ne (y := m12_make) (tgt := 125) dX12_make_103 (by decide) (fun hc18 => ?_) (fun hc18 => ?_)
          · have h := h.1 hc18
            exact h
          · have h := h.2 hc18
            refine r_aload_n (y := m12_make) dX12_make_106 rfl rfl ?_
            refine g_X12_38 (y := m12_make) rfl dX12_make_107 hm9 ?_
            refine r_iload (y := m12_make) dX12_make_110 rfl ?_
            refine r_iload (y := m12_make) dX12_make_112 rfl ?_
            refine r_iconst (y := m12_make) (v := 1) dX12_make_114 (by decide) ?_
            refine r_iadd (y := m12_make) dX12_make_115 ?_
            obtain ⟨hb19, h⟩ := h
            refine r_iast (y := m12_make) (n := 6000) dX12_make_116 (sa_678 hm9) hb19 ?_
            refine r_aload_n (y := m12_make) dX12_make_117 rfl rfl ?_
            refine g_X12_50 (y := m12_make) rfl dX12_make_118 (St.i hm9) ?_
            refine r_iload (y := m12_make) dX12_make_121 rfl ?_
            refine r_iload_n (y := m12_make) dX12_make_123 rfl rfl ?_
            obtain ⟨hb20, h⟩ := h
            refine r_iast (y := m12_make) (n := 6000) dX12_make_124 (sa_682 (St.i hm9)) hb20 ?_
            exact h
      · have h := h.2 hc7
        refine r_iload (y := m12_make) dX12_make_61 rfl ?_
        refine r_bipush (y := m12_make) (v := 10) dX12_make_63 (by decide) ?_
        refine r_isub (y := m12_make) dX12_make_65 ?_
        refine r_goto (y := m12_make) (tgt := 74) dX12_make_66 (by decide) ?_
        refine r_iload_n (y := m12_make) dX12_make_74 rfl rfl ?_
        refine r_callV (y := m12_make) (As := [(.int x6), (.int ((mI m 676 (Int32.toNatClampNeg v6)) - 10)), (.int v3)]) (b := 668) (ci := 12) dX12_make_75 rfl k12_newThing lm_X12_233 rfl ⟨by decide, by decide⟩ (so_668 hm5) (by decide) rfl (Nat.le_of_ble_eq_true rfl) (C.mono h ?_)
        rintro _ m21 ⟨x23, rfl, hm22, h⟩
        refine ⟨_, rfl, ?_⟩
        refine r_istore (y := m12_make) (L' := [some (.ref 668), some (.int v1), some (.int v2), some (.int v3), some (.int v4), some (.int v5), some (.int v6), some (.int v7), some (.int (mI m 676 (Int32.toNatClampNeg v6))), some (.int x23), none, none]) dX12_make_78 (Nat.le_of_ble_eq_true rfl) rfl ?_
        refine r_iload (y := m12_make) dX12_make_80 rfl ?_
        refine r_bipush (y := m12_make) (v := 33) dX12_make_82 (by decide) ?_
        refine r_icmp_ne (y := m12_make) (tgt := 91) dX12_make_84 (by decide) (fun hc24 => ?_) (fun hc24 => ?_)
        · have h := h.1 hc24
          refine r_aload_n (y := m12_make) dX12_make_91 rfl rfl ?_
          refine r_iload (y := m12_make) dX12_make_92 rfl ?_
          refine r_callV (y := m12_make) (As := [(.int (mI m 676 (Int32.toNatClampNeg v6)))]) (b := 668) (ci := 12) dX12_make_94 rfl k12_partsOf lm_X12_161 rfl ⟨by decide, by decide⟩ (so_668 hm22) (by decide) rfl (Nat.le_of_ble_eq_true rfl) (C.mono h ?_)
          rintro _ m25 ⟨x27, rfl, hm26, h⟩
          refine ⟨_, rfl, ?_⟩
          refine r_istore (y := m12_make) (L' := [some (.ref 668), some (.int v1), some (.int v2), some (.int v3), some (.int v4), some (.int v5), some (.int v6), some (.int v7), some (.int (mI m 676 (Int32.toNatClampNeg v6))), some (.int x23), some (.int x27), none]) dX12_make_97 (Nat.le_of_ble_eq_true rfl) rfl ?_
          refine r_iload (y := m12_make) dX12_make_99 rfl ?_
          refine r_bipush (y := m12_make) (v := 33) dX12_make_101 (by decide) ?_
          refine r_icmp_ne (y := m12_make) (tgt := 125) dX12_make_103 (by decide) (fun hc28 => ?_) (fun hc28 => ?_)
          · have h := h.1 hc28
            exact h
          · have h := h.2 hc28
            refine r_aload_n (y := m12_make) dX12_make_106 rfl rfl ?_
            refine g_X12_38 (y := m12_make) rfl dX12_make_107 hm26 ?_
            refine r_iload (y := m12_make) dX12_make_110 rfl ?_
            refine r_iload (y := m12_make) dX12_make_112 rfl ?_
            refine r_iconst (y := m12_make) (v := 1) dX12_make_114 (by decide) ?_
            refine r_iadd (y := m12_make) dX12_make_115 ?_
            obtain ⟨hb29, h⟩ := h
            refine r_iast (y := m12_make) (n := 6000) dX12_make_116 (sa_678 hm26) hb29 ?_
            refine r_aload_n (y := m12_make) dX12_make_117 rfl rfl ?_
            refine g_X12_50 (y := m12_make) rfl dX12_make_118 (St.i hm26) ?_
            refine r_iload (y := m12_make) dX12_make_121 rfl ?_
            refine r_iload_n (y := m12_make) dX12_make_123 rfl rfl ?_
            obtain ⟨hb30, h⟩ := h
            refine r_iast (y := m12_make) (n := 6000) dX12_make_124 (sa_682 (St.i hm26)) hb30 ?_
            exact h
        · have h := h.2 hc24
          refine r_iconst (y := m12_make) (v := 0) dX12_make_87 (by decide) ?_
          refine r_goto (y := m12_make) (tgt := 97) dX12_make_88 (by decide) ?_
          refine r_istore (y := m12_make) (L' := [some (.ref 668), some (.int v1), some (.int v2), some (.int v3), some (.int v4), some (.int v5), some (.int v6), some (.int v7), some (.int (mI m 676 (Int32.toNatClampNeg v6))), some (.int x23), some (.int 0), none]) dX12_make_97 (Nat.le_of_ble_eq_true rfl) rfl ?_
          refine r_iload (y := m12_make) dX12_make_99 rfl ?_
          refine r_bipush (y := m12_make) (v := 33) dX12_make_101 (by decide) ?_
          refine r_icmp_ne (y := m12_make) (tgt := 125) dX12_make_103 (by decide) (fun hc31 => ?_) (fun hc31 => ?_)
          · have h := h.1 hc31
            exact h
          · have h := h.2 hc31
            refine r_aload_n (y := m12_make) dX12_make_106 rfl rfl ?_
            refine g_X12_38 (y := m12_make) rfl dX12_make_107 hm22 ?_
            refine r_iload (y := m12_make) dX12_make_110 rfl ?_
            refine r_iload (y := m12_make) dX12_make_112 rfl ?_
            refine r_iconst (y := m12_make) (v := 1) dX12_make_114 (by decide) ?_
            refine r_iadd (y := m12_make) dX12_make_115 ?_
            obtain ⟨hb32, h⟩ := h
            refine r_iast (y := m12_make) (n := 6000) dX12_make_116 (sa_678 hm22) hb32 ?_
            refine r_aload_n (y := m12_make) dX12_make_117 rfl rfl ?_
            refine g_X12_50 (y := m12_make) rfl dX12_make_118 (St.i hm22) ?_
            refine r_iload (y := m12_make) dX12_make_121 rfl ?_
            refine r_iload_n (y := m12_make) dX12_make_123 rfl rfl ?_
            obtain ⟨hb33, h⟩ := h
            refine r_iast (y := m12_make) (n := 6000) dX12_make_124 (sa_682 (St.i hm22)) hb33 ?_
            exact h
    · have h := h.2 hc3
      refine r_aload_n (y := m12_make) dX12_make_33 rfl rfl ?_
      refine g_X12_59 (y := m12_make) rfl dX12_make_34 hm ?_
      refine r_bipush (y := m12_make) (v := 6) dX12_make_37 (by decide) ?_
      refine r_iload_n (y := m12_make) dX12_make_39 rfl rfl ?_
      refine r_imul (y := m12_make) dX12_make_40 ?_
      refine r_iload (y := m12_make) dX12_make_41 rfl ?_
      refine r_iadd (y := m12_make) dX12_make_43 ?_
      obtain ⟨hb34, h⟩ := h
      refine r_iald (y := m12_make) (n := 1200) dX12_make_44 (sa_685 hm) hb34 ?_
      refine r_goto (y := m12_make) (tgt := 78) dX12_make_45 (by decide) ?_
      refine r_istore (y := m12_make) (L' := [some (.ref 668), some (.int v1), some (.int v2), some (.int v3), some (.int v4), some (.int v5), some (.int v6), some (.int v7), some (.int (mI m 676 (Int32.toNatClampNeg v6))), some (.int (mI m 685 (Int32.toNatClampNeg ((6 * v2) + (mI m 676 (Int32.toNatClampNeg v6)))))), none, none]) dX12_make_78 (Nat.le_of_ble_eq_true rfl) rfl ?_
      refine r_iload (y := m12_make) dX12_make_80 rfl ?_
      refine r_bipush (y := m12_make) (v := 33) dX12_make_82 (by decide) ?_
      refine r_icmp_ne (y := m12_make) (tgt := 91) dX12_make_84 (by decide) (fun hc35 => ?_) (fun hc35 => ?_)
      · have h := h.1 hc35
        refine r_aload_n (y := m12_make) dX12_make_91 rfl rfl ?_
        refine r_iload (y := m12_make) dX12_make_92 rfl ?_
        refine r_callV (y := m12_make) (As := [(.int (mI m 676 (Int32.toNatClampNeg v6)))]) (b := 668) (ci := 12) dX12_make_94 rfl k12_partsOf lm_X12_161 rfl ⟨by decide, by decide⟩ (so_668 hm) (by decide) rfl (Nat.le_of_ble_eq_true rfl) (C.mono h ?_)
        rintro _ m36 ⟨x38, rfl, hm37, h⟩
        refine ⟨_, rfl, ?_⟩
        refine r_istore (y := m12_make) (L' := [some (.ref 668), some (.int v1), some (.int v2), some (.int v3), some (.int v4), some (.int v5), some (.int v6), some (.int v7), some (.int (mI m 676 (Int32.toNatClampNeg v6))), some (.int (mI m 685 (Int32.toNatClampNeg ((6 * v2) + (mI m 676 (Int32.toNatClampNeg v6)))))), some (.int x38), none]) dX12_make_97 (Nat.le_of_ble_eq_true rfl) rfl ?_
        refine r_iload (y := m12_make) dX12_make_99 rfl ?_
        refine r_bipush (y := m12_make) (v := 33) dX12_make_101 (by decide) ?_
        refine r_icmp_ne (y := m12_make) (tgt := 125) dX12_make_103 (by decide) (fun hc39 => ?_) (fun hc39 => ?_)
        · have h := h.1 hc39
          exact h
        · have h := h.2 hc39
          refine r_aload_n (y := m12_make) dX12_make_106 rfl rfl ?_
          refine g_X12_38 (y := m12_make) rfl dX12_make_107 hm37 ?_
          refine r_iload (y := m12_make) dX12_make_110 rfl ?_
          refine r_iload (y := m12_make) dX12_make_112 rfl ?_
          refine r_iconst (y := m12_make) (v := 1) dX12_make_114 (by decide) ?_
          refine r_iadd (y := m12_make) dX12_make_115 ?_
          obtain ⟨hb40, h⟩ := h
          refine r_iast (y := m12_make) (n := 6000) dX12_make_116 (sa_678 hm37) hb40 ?_
          refine r_aload_n (y := m12_make) dX12_make_117 rfl rfl ?_
          refine g_X12_50 (y := m12_make) rfl dX12_make_118 (St.i hm37) ?_
          refine r_iload (y := m12_make) dX12_make_121 rfl ?_
          refine r_iload_n (y := m12_make) dX12_make_123 rfl rfl ?_
          obtain ⟨hb41, h⟩ := h
          refine r_iast (y := m12_make) (n := 6000) dX12_make_124 (sa_682 (St.i hm37)) hb41 ?_
          exact h
      · have h := h.2 hc35
        refine r_iconst (y := m12_make) (v := 0) dX12_make_87 (by decide) ?_
        refine r_goto (y := m12_make) (tgt := 97) dX12_make_88 (by decide) ?_
        refine r_istore (y := m12_make) (L' := [some (.ref 668), some (.int v1), some (.int v2), some (.int v3), some (.int v4), some (.int v5), some (.int v6), some (.int v7), some (.int (mI m 676 (Int32.toNatClampNeg v6))), some (.int (mI m 685 (Int32.toNatClampNeg ((6 * v2) + (mI m 676 (Int32.toNatClampNeg v6)))))), some (.int 0), none]) dX12_make_97 (Nat.le_of_ble_eq_true rfl) rfl ?_
        refine r_iload (y := m12_make) dX12_make_99 rfl ?_
        refine r_bipush (y := m12_make) (v := 33) dX12_make_101 (by decide) ?_
        refine r_icmp_ne (y := m12_make) (tgt := 125) dX12_make_103 (by decide) (fun hc42 => ?_) (fun hc42 => ?_)
        · have h := h.1 hc42
          exact h
        · have h := h.2 hc42
          refine r_aload_n (y := m12_make) dX12_make_106 rfl rfl ?_
          refine g_X12_38 (y := m12_make) rfl dX12_make_107 hm ?_
          refine r_iload (y := m12_make) dX12_make_110 rfl ?_
          refine r_iload (y := m12_make) dX12_make_112 rfl ?_
          refine r_iconst (y := m12_make) (v := 1) dX12_make_114 (by decide) ?_
          refine r_iadd (y := m12_make) dX12_make_115 ?_
          obtain ⟨hb43, h⟩ := h
          refine r_iast (y := m12_make) (n := 6000) dX12_make_116 (sa_678 hm) hb43 ?_
          refine r_aload_n (y := m12_make) dX12_make_117 rfl rfl ?_
          refine g_X12_50 (y := m12_make) rfl dX12_make_118 (St.i hm) ?_
          refine r_iload (y := m12_make) dX12_make_121 rfl ?_
          refine r_iload_n (y := m12_make) dX12_make_123 rfl rfl ?_
          obtain ⟨hb44, h⟩ := h
          refine r_iast (y := m12_make) (n := 6000) dX12_make_124 (sa_682 (St.i hm)) hb44 ?_
          exact h
set_option maxHeartbeats 4000000 in
set_option maxRecDepth 100000 in
theorem w12_make_125 {m : Mm} {K : Option Value ⊕ String → Mm → Prop} (hm : St m) {v1 : Int32} {v2 : Int32} {v3 : Int32} {v4 : Int32} {v5 : Int32} {v6 : Int32} {v7 : Int32} {v8 : Int32} {v9 : Int32} {v10 : Int32}  (h : ((¬ v5 = 0 → vp_in (v5 - 1) 16 ∧ vp_in (mI m 697 (Int32.toNatClampNeg (v5 - 1))) 6000 ∧ ((¬ (mI m 679 (Int32.toNatClampNeg (mI m 697 (Int32.toNatClampNeg (v5 - 1))))) = (-1) → vp_in (v5 - 1) 16 ∧ (((0 : Int32) = 0 → vp_in (v5 - 1) 16 ∧ vp_in (mI m 697 (Int32.toNatClampNeg (v5 - 1))) 6000 ∧ vp_in (mI m 697 (Int32.toNatClampNeg (v5 - 1))) 6000 ∧ vp_in (v5 - 1) 16 ∧ (((0 : Int32) = 0 → vp_in (mI m 697 (Int32.toNatClampNeg (v5 - 1))) 6000 ∧ vp_in (v5 - 1) 16 ∧ vp_in (v5 - 1) 16 ∧ V m12_make 238 [some (.ref 668), some (.int v1), some (.int v2), some (.int v3), some (.int v4), some (.int v5), some (.int v6), some (.int v7), some (.int v8), some (.int v9), some (.int v10), some (.int 0)] [] (mSetI (mSetI (mSetI m 679 (Int32.toNatClampNeg (mI m 697 (Int32.toNatClampNeg (v5 - 1)))) (mI m 679 (Int32.toNatClampNeg (mI m 697 (Int32.toNatClampNeg (v5 - 1)))))) 680 (Int32.toNatClampNeg (mI m 697 (Int32.toNatClampNeg (v5 - 1)))) v9) 698 (Int32.toNatClampNeg (v5 - 1)) ((mI m 698 (Int32.toNatClampNeg (v5 - 1))) - 1)) K) ∧ (¬ (0 : Int32) = 0 → vp_in (mI m 697 (Int32.toNatClampNeg (v5 - 1))) 6000 ∧ vp_in (v5 - 1) 16 ∧ vp_in (v5 - 1) 16 ∧ V m12_make 238 [some (.ref 668), some (.int v1), some (.int v2), some (.int v3), some (.int v4), some (.int v5), some (.int v6), some (.int v7), some (.int v8), some (.int v9), some (.int v10), some (.int 0)] [] (mSetI (mSetI (mSetI m 679 (Int32.toNatClampNeg (mI m 697 (Int32.toNatClampNeg (v5 - 1)))) (mI m 679 (Int32.toNatClampNeg (mI m 697 (Int32.toNatClampNeg (v5 - 1)))))) 680 (Int32.toNatClampNeg (mI m 697 (Int32.toNatClampNeg (v5 - 1)))) (-1)) 698 (Int32.toNatClampNeg (v5 - 1)) ((mI m 698 (Int32.toNatClampNeg (v5 - 1))) - 1)) K))) ∧ (¬ (0 : Int32) = 0 → vp_in (mI m 697 (Int32.toNatClampNeg (v5 - 1))) 6000 ∧ vp_in (v5 - 1) 16 ∧ (((0 : Int32) = 0 → vp_in (mI m 697 (Int32.toNatClampNeg (v5 - 1))) 6000 ∧ vp_in (v5 - 1) 16 ∧ vp_in (v5 - 1) 16 ∧ V m12_make 238 [some (.ref 668), some (.int v1), some (.int v2), some (.int v3), some (.int v4), some (.int v5), some (.int v6), some (.int v7), some (.int v8), some (.int v9), some (.int v10), some (.int 0)] [] (mSetI (mSetI (mSetI m 679 (Int32.toNatClampNeg (mI m 697 (Int32.toNatClampNeg (v5 - 1)))) v9) 680 (Int32.toNatClampNeg (mI m 697 (Int32.toNatClampNeg (v5 - 1)))) v9) 698 (Int32.toNatClampNeg (v5 - 1)) ((mI m 698 (Int32.toNatClampNeg (v5 - 1))) - 1)) K) ∧ (¬ (0 : Int32) = 0 → vp_in (mI m 697 (Int32.toNatClampNeg (v5 - 1))) 6000 ∧ vp_in (v5 - 1) 16 ∧ vp_in (v5 - 1) 16 ∧ V m12_make 238 [some (.ref 668), some (.int v1), some (.int v2), some (.int v3), some (.int v4), some (.int v5), some (.int v6), some (.int v7), some (.int v8), some (.int v9), some (.int v10), some (.int 0)] [] (mSetI (mSetI (mSetI m 679 (Int32.toNatClampNeg (mI m 697 (Int32.toNatClampNeg (v5 - 1)))) v9) 680 (Int32.toNatClampNeg (mI m 697 (Int32.toNatClampNeg (v5 - 1)))) (-1)) 698 (Int32.toNatClampNeg (v5 - 1)) ((mI m 698 (Int32.toNatClampNeg (v5 - 1))) - 1)) K))))) ∧ ((mI m 679 (Int32.toNatClampNeg (mI m 697 (Int32.toNatClampNeg (v5 - 1))))) = (-1) → vp_in (v5 - 1) 16 ∧ (((1 : Int32) = 0 → vp_in (v5 - 1) 16 ∧ vp_in (mI m 697 (Int32.toNatClampNeg (v5 - 1))) 6000 ∧ vp_in (mI m 697 (Int32.toNatClampNeg (v5 - 1))) 6000 ∧ vp_in (v5 - 1) 16 ∧ (((1 : Int32) = 0 → vp_in (mI m 697 (Int32.toNatClampNeg (v5 - 1))) 6000 ∧ vp_in (v5 - 1) 16 ∧ vp_in (v5 - 1) 16 ∧ V m12_make 238 [some (.ref 668), some (.int v1), some (.int v2), some (.int v3), some (.int v4), some (.int v5), some (.int v6), some (.int v7), some (.int v8), some (.int v9), some (.int v10), some (.int 1)] [] (mSetI (mSetI (mSetI m 679 (Int32.toNatClampNeg (mI m 697 (Int32.toNatClampNeg (v5 - 1)))) (mI m 679 (Int32.toNatClampNeg (mI m 697 (Int32.toNatClampNeg (v5 - 1)))))) 680 (Int32.toNatClampNeg (mI m 697 (Int32.toNatClampNeg (v5 - 1)))) v9) 698 (Int32.toNatClampNeg (v5 - 1)) ((mI m 698 (Int32.toNatClampNeg (v5 - 1))) - 1)) K) ∧ (¬ (1 : Int32) = 0 → vp_in (mI m 697 (Int32.toNatClampNeg (v5 - 1))) 6000 ∧ vp_in (v5 - 1) 16 ∧ vp_in (v5 - 1) 16 ∧ V m12_make 238 [some (.ref 668), some (.int v1), some (.int v2), some (.int v3), some (.int v4), some (.int v5), some (.int v6), some (.int v7), some (.int v8), some (.int v9), some (.int v10), some (.int 1)] [] (mSetI (mSetI (mSetI m 679 (Int32.toNatClampNeg (mI m 697 (Int32.toNatClampNeg (v5 - 1)))) (mI m 679 (Int32.toNatClampNeg (mI m 697 (Int32.toNatClampNeg (v5 - 1)))))) 680 (Int32.toNatClampNeg (mI m 697 (Int32.toNatClampNeg (v5 - 1)))) (-1)) 698 (Int32.toNatClampNeg (v5 - 1)) ((mI m 698 (Int32.toNatClampNeg (v5 - 1))) - 1)) K))) ∧ (¬ (1 : Int32) = 0 → vp_in (mI m 697 (Int32.toNatClampNeg (v5 - 1))) 6000 ∧ vp_in (v5 - 1) 16 ∧ (((1 : Int32) = 0 → vp_in (mI m 697 (Int32.toNatClampNeg (v5 - 1))) 6000 ∧ vp_in (v5 - 1) 16 ∧ vp_in (v5 - 1) 16 ∧ V m12_make 238 [some (.ref 668), some (.int v1), some (.int v2), some (.int v3), some (.int v4), some (.int v5), some (.int v6), some (.int v7), some (.int v8), some (.int v9), some (.int v10), some (.int 1)] [] (mSetI (mSetI (mSetI m 679 (Int32.toNatClampNeg (mI m 697 (Int32.toNatClampNeg (v5 - 1)))) v9) 680 (Int32.toNatClampNeg (mI m 697 (Int32.toNatClampNeg (v5 - 1)))) v9) 698 (Int32.toNatClampNeg (v5 - 1)) ((mI m 698 (Int32.toNatClampNeg (v5 - 1))) - 1)) K) ∧ (¬ (1 : Int32) = 0 → vp_in (mI m 697 (Int32.toNatClampNeg (v5 - 1))) 6000 ∧ vp_in (v5 - 1) 16 ∧ vp_in (v5 - 1) 16 ∧ V m12_make 238 [some (.ref 668), some (.int v1), some (.int v2), some (.int v3), some (.int v4), some (.int v5), some (.int v6), some (.int v7), some (.int v8), some (.int v9), some (.int v10), some (.int 1)] [] (mSetI (mSetI (mSetI m 679 (Int32.toNatClampNeg (mI m 697 (Int32.toNatClampNeg (v5 - 1)))) v9) 680 (Int32.toNatClampNeg (mI m 697 (Int32.toNatClampNeg (v5 - 1)))) (-1)) 698 (Int32.toNatClampNeg (v5 - 1)) ((mI m 698 (Int32.toNatClampNeg (v5 - 1))) - 1)) K))))))) ∧ (v5 = 0 → V m12_make 238 [some (.ref 668), some (.int v1), some (.int v2), some (.int v3), some (.int v9), some (.int v5), some (.int v6), some (.int v7), some (.int v8), some (.int v9), some (.int v10), none] [] m K))) : V m12_make 125 [some (.ref 668), some (.int v1), some (.int v2), some (.int v3), some (.int v4), some (.int v5), some (.int v6), some (.int v7), some (.int v8), some (.int v9), some (.int v10), none] [] m K := by
  refine r_iload (y := m12_make) dX12_make_125 rfl ?_
  refine r_if_ne (y := m12_make) (tgt := 137) dX12_make_127 (by decide) (fun hc1 => ?_) (fun hc1 => ?_)
  · have h := h.1 hc1
    refine r_aload_n (y := m12_make) dX12_make_137 rfl rfl ?_
    refine g_X12_41 (y := m12_make) rfl dX12_make_138 hm ?_
    refine r_aload_n (y := m12_make) dX12_make_141 rfl rfl ?_
    refine g_X12_95 (y := m12_make) rfl dX12_make_142 hm ?_
    refine r_iload (y := m12_make) dX12_make_145 rfl ?_
    refine r_iconst (y := m12_make) (v := 1) dX12_make_147 (by decide) ?_
    refine r_isub (y := m12_make) dX12_make_148 ?_
    obtain ⟨hb2, h⟩ := h
    refine r_iald (y := m12_make) (n := 16) dX12_make_149 (sa_697 hm) hb2 ?_
    obtain ⟨hb3, h⟩ := h
    refine r_iald (y := m12_make) (n := 6000) dX12_make_150 (sa_679 hm) hb3 ?_
    refine r_iconst (y := m12_make) (v := (-1)) dX12_make_151 (by decide) ?_
    refine r_icmp_ne (y := m12_make) (tgt := 159) dX12_make_152 (by decide) (fun hc4 => ?_) (fun hc4 => ?_)
    · have h := h.1 hc4
      refine r_iconst (y := m12_make) (v := 0) dX12_make_159 (by decide) ?_
      refine r_istore (y := m12_make) (L' := [some (.ref 668), some (.int v1), some (.int v2), some (.int v3), some (.int v4), some (.int v5), some (.int v6), some (.int v7), some (.int v8), some (.int v9), some (.int v10), some (.int 0)]) dX12_make_160 (Nat.le_of_ble_eq_true rfl) rfl ?_
      refine r_aload_n (y := m12_make) dX12_make_162 rfl rfl ?_
      refine g_X12_41 (y := m12_make) rfl dX12_make_163 hm ?_
      refine r_aload_n (y := m12_make) dX12_make_166 rfl rfl ?_
      refine g_X12_95 (y := m12_make) rfl dX12_make_167 hm ?_
      refine r_iload (y := m12_make) dX12_make_170 rfl ?_
      refine r_iconst (y := m12_make) (v := 1) dX12_make_172 (by decide) ?_
      refine r_isub (y := m12_make) dX12_make_173 ?_
      obtain ⟨hb5, h⟩ := h
      refine r_iald (y := m12_make) (n := 16) dX12_make_174 (sa_697 hm) hb5 ?_
      refine r_iload (y := m12_make) dX12_make_175 rfl ?_
      refine r_if_eq (y := m12_make) (tgt := 185) dX12_make_177 (by decide) (fun hc6 => ?_) (fun hc6 => ?_)
      · have h := h.1 hc6
        refine r_aload_n (y := m12_make) dX12_make_185 rfl rfl ?_
        refine g_X12_41 (y := m12_make) rfl dX12_make_186 hm ?_
        refine r_aload_n (y := m12_make) dX12_make_189 rfl rfl ?_
        refine g_X12_95 (y := m12_make) rfl dX12_make_190 hm ?_
        refine r_iload (y := m12_make) dX12_make_193 rfl ?_
        refine r_iconst (y := m12_make) (v := 1) dX12_make_195 (by decide) ?_
        refine r_isub (y := m12_make) dX12_make_196 ?_
        obtain ⟨hb7, h⟩ := h
        refine r_iald (y := m12_make) (n := 16) dX12_make_197 (sa_697 hm) hb7 ?_
        obtain ⟨hb8, h⟩ := h
        refine r_iald (y := m12_make) (n := 6000) dX12_make_198 (sa_679 hm) hb8 ?_
        obtain ⟨hb9, h⟩ := h
        refine r_iast (y := m12_make) (n := 6000) dX12_make_199 (sa_679 hm) hb9 ?_
        refine r_aload_n (y := m12_make) dX12_make_200 rfl rfl ?_
        refine g_X12_44 (y := m12_make) rfl dX12_make_201 (St.i hm) ?_
        refine r_aload_n (y := m12_make) dX12_make_204 rfl rfl ?_
        refine g_X12_95 (y := m12_make) rfl dX12_make_205 (St.i hm) ?_
        refine r_iload (y := m12_make) dX12_make_208 rfl ?_
        refine r_iconst (y := m12_make) (v := 1) dX12_make_210 (by decide) ?_
        refine r_isub (y := m12_make) dX12_make_211 ?_
        obtain ⟨hb10, h⟩ := h
        refine r_iald (y := m12_make) (n := 16) dX12_make_212 (sa_697 (St.i hm)) hb10 ?_
        refine V.top (b := (mI m 697 (Int32.toNatClampNeg (v5 - 1)))) (by first | rfl | simp [mI_set, mI_setR]) ?_
        refine r_iload (y := m12_make) dX12_make_213 rfl ?_
        refine r_if_eq (y := m12_make) (tgt := 222) dX12_make_215 (by decide) (fun hc11 => ?_) (fun hc11 => ?_)
        · have h := h.1 hc11
          refine r_iload (y := m12_make) dX12_make_222 rfl ?_
          obtain ⟨hb12, h⟩ := h
          refine r_iast (y := m12_make) (n := 6000) dX12_make_224 (sa_680 (St.i hm)) hb12 ?_
          refine r_aload_n (y := m12_make) dX12_make_225 rfl rfl ?_
          refine g_X12_98 (y := m12_make) rfl dX12_make_226 (St.i (St.i hm)) ?_
          refine r_iload (y := m12_make) dX12_make_229 rfl ?_
          refine r_iconst (y := m12_make) (v := 1) dX12_make_231 (by decide) ?_
          refine r_isub (y := m12_make) dX12_make_232 ?_
          refine r_dup2 (y := m12_make) dX12_make_233 ?_
          obtain ⟨hb13, h⟩ := h
          refine r_iald (y := m12_make) (n := 16) dX12_make_234 (sa_698 (St.i (St.i hm))) hb13 ?_
          refine V.top (b := (mI m 698 (Int32.toNatClampNeg (v5 - 1)))) (by first | rfl | simp [mI_set, mI_setR]) ?_
          refine r_iconst (y := m12_make) (v := 1) dX12_make_235 (by decide) ?_
          refine r_isub (y := m12_make) dX12_make_236 ?_
          obtain ⟨hb14, h⟩ := h
          refine r_iast (y := m12_make) (n := 16) dX12_make_237 (sa_698 (St.i (St.i hm))) hb14 ?_
          exact h
        · have h := h.2 hc11
          refine r_iconst (y := m12_make) (v := (-1)) dX12_make_218 (by decide) ?_
          refine r_goto (y := m12_make) (tgt := 224) dX12_make_219 (by decide) ?_
          obtain ⟨hb15, h⟩ := h
          refine r_iast (y := m12_make) (n := 6000) dX12_make_224 (sa_680 (St.i hm)) hb15 ?_
          refine r_aload_n (y := m12_make) dX12_make_225 rfl rfl ?_
          refine g_X12_98 (y := m12_make) rfl dX12_make_226 (St.i (St.i hm)) ?_
          refine r_iload (y := m12_make) dX12_make_229 rfl ?_
          refine r_iconst (y := m12_make) (v := 1) dX12_make_231 (by decide) ?_
          refine r_isub (y := m12_make) dX12_make_232 ?_
          refine r_dup2 (y := m12_make) dX12_make_233 ?_
          obtain ⟨hb16, h⟩ := h
          refine r_iald (y := m12_make) (n := 16) dX12_make_234 (sa_698 (St.i (St.i hm))) hb16 ?_
          refine V.top (b := (mI m 698 (Int32.toNatClampNeg (v5 - 1)))) (by first | rfl | simp [mI_set, mI_setR]) ?_
          refine r_iconst (y := m12_make) (v := 1) dX12_make_235 (by decide) ?_
          refine r_isub (y := m12_make) dX12_make_236 ?_
          obtain ⟨hb17, h⟩ := h
          refine r_iast (y := m12_make) (n := 16) dX12_make_237 (sa_698 (St.i (St.i hm))) hb17 ?_
          exact h
      · have h := h.2 hc6
        refine r_iload (y := m12_make) dX12_make_180 rfl ?_
        refine r_goto (y := m12_make) (tgt := 199) dX12_make_182 (by decide) ?_
        obtain ⟨hb18, h⟩ := h
        refine r_iast (y := m12_make) (n := 6000) dX12_make_199 (sa_679 hm) hb18 ?_
        refine r_aload_n (y := m12_make) dX12_make_200 rfl rfl ?_
        refine g_X12_44 (y := m12_make) rfl dX12_make_201 (St.i hm) ?_
        refine r_aload_n (y := m12_make) dX12_make_204 rfl rfl ?_
        refine g_X12_95 (y := m12_make) rfl dX12_make_205 (St.i hm) ?_
        refine r_iload (y := m12_make) dX12_make_208 rfl ?_
        refine r_iconst (y := m12_make) (v := 1) dX12_make_210 (by decide) ?_
        refine r_isub (y := m12_make) dX12_make_211 ?_
        obtain ⟨hb19, h⟩ := h
        refine r_iald (y := m12_make) (n := 16) dX12_make_212 (sa_697 (St.i hm)) hb19 ?_
        refine V.top (b := (mI m 697 (Int32.toNatClampNeg (v5 - 1)))) (by first | rfl | simp [mI_set, mI_setR]) ?_
        refine r_iload (y := m12_make) dX12_make_213 rfl ?_
        refine r_if_eq (y := m12_make) (tgt := 222) dX12_make_215 (by decide) (fun hc20 => ?_) (fun hc20 => ?_)
        · have h := h.1 hc20
          refine r_iload (y := m12_make) dX12_make_222 rfl ?_
          obtain ⟨hb21, h⟩ := h
          refine r_iast (y := m12_make) (n := 6000) dX12_make_224 (sa_680 (St.i hm)) hb21 ?_
          refine r_aload_n (y := m12_make) dX12_make_225 rfl rfl ?_
          refine g_X12_98 (y := m12_make) rfl dX12_make_226 (St.i (St.i hm)) ?_
          refine r_iload (y := m12_make) dX12_make_229 rfl ?_
          refine r_iconst (y := m12_make) (v := 1) dX12_make_231 (by decide) ?_
          refine r_isub (y := m12_make) dX12_make_232 ?_
          refine r_dup2 (y := m12_make) dX12_make_233 ?_
          obtain ⟨hb22, h⟩ := h
          refine r_iald (y := m12_make) (n := 16) dX12_make_234 (sa_698 (St.i (St.i hm))) hb22 ?_
          refine V.top (b := (mI m 698 (Int32.toNatClampNeg (v5 - 1)))) (by first | rfl | simp [mI_set, mI_setR]) ?_
          refine r_iconst (y := m12_make) (v := 1) dX12_make_235 (by decide) ?_
          refine r_isub (y := m12_make) dX12_make_236 ?_
          obtain ⟨hb23, h⟩ := h
          refine r_iast (y := m12_make) (n := 16) dX12_make_237 (sa_698 (St.i (St.i hm))) hb23 ?_
          exact h
        · have h := h.2 hc20
          refine r_iconst (y := m12_make) (v := (-1)) dX12_make_218 (by decide) ?_
          refine r_goto (y := m12_make) (tgt := 224) dX12_make_219 (by decide) ?_
          obtain ⟨hb24, h⟩ := h
          refine r_iast (y := m12_make) (n := 6000) dX12_make_224 (sa_680 (St.i hm)) hb24 ?_
          refine r_aload_n (y := m12_make) dX12_make_225 rfl rfl ?_
          refine g_X12_98 (y := m12_make) rfl dX12_make_226 (St.i (St.i hm)) ?_
          refine r_iload (y := m12_make) dX12_make_229 rfl ?_
          refine r_iconst (y := m12_make) (v := 1) dX12_make_231 (by decide) ?_
          refine r_isub (y := m12_make) dX12_make_232 ?_
          refine r_dup2 (y := m12_make) dX12_make_233 ?_
          obtain ⟨hb25, h⟩ := h
          refine r_iald (y := m12_make) (n := 16) dX12_make_234 (sa_698 (St.i (St.i hm))) hb25 ?_
          refine V.top (b := (mI m 698 (Int32.toNatClampNeg (v5 - 1)))) (by first | rfl | simp [mI_set, mI_setR]) ?_
          refine r_iconst (y := m12_make) (v := 1) dX12_make_235 (by decide) ?_
          refine r_isub (y := m12_make) dX12_make_236 ?_
          obtain ⟨hb26, h⟩ := h
          refine r_iast (y := m12_make) (n := 16) dX12_make_237 (sa_698 (St.i (St.i hm))) hb26 ?_
          exact h
    · have h := h.2 hc4
      refine r_iconst (y := m12_make) (v := 1) dX12_make_155 (by decide) ?_
      refine r_goto (y := m12_make) (tgt := 160) dX12_make_156 (by decide) ?_
      refine r_istore (y := m12_make) (L' := [some (.ref 668), some (.int v1), some (.int v2), some (.int v3), some (.int v4), some (.int v5), some (.int v6), some (.int v7), some (.int v8), some (.int v9), some (.int v10), some (.int 1)]) dX12_make_160 (Nat.le_of_ble_eq_true rfl) rfl ?_
      refine r_aload_n (y := m12_make) dX12_make_162 rfl rfl ?_
      refine g_X12_41 (y := m12_make) rfl dX12_make_163 hm ?_
      refine r_aload_n (y := m12_make) dX12_make_166 rfl rfl ?_
      refine g_X12_95 (y := m12_make) rfl dX12_make_167 hm ?_
      refine r_iload (y := m12_make) dX12_make_170 rfl ?_
      refine r_iconst (y := m12_make) (v := 1) dX12_make_172 (by decide) ?_
      refine r_isub (y := m12_make) dX12_make_173 ?_
      obtain ⟨hb27, h⟩ := h
      refine r_iald (y := m12_make) (n := 16) dX12_make_174 (sa_697 hm) hb27 ?_
      refine r_iload (y := m12_make) dX12_make_175 rfl ?_
      refine r_if_eq (y := m12_make) (tgt := 185) dX12_make_177 (by decide) (fun hc28 => ?_) (fun hc28 => ?_)
      · have h := h.1 hc28
        refine r_aload_n (y := m12_make) dX12_make_185 rfl rfl ?_
        refine g_X12_41 (y := m12_make) rfl dX12_make_186 hm ?_
        refine r_aload_n (y := m12_make) dX12_make_189 rfl rfl ?_
        refine g_X12_95 (y := m12_make) rfl dX12_make_190 hm ?_
        refine r_iload (y := m12_make) dX12_make_193 rfl ?_
        refine r_iconst (y := m12_make) (v := 1) dX12_make_195 (by decide) ?_
        refine r_isub (y := m12_make) dX12_make_196 ?_
        obtain ⟨hb29, h⟩ := h
        refine r_iald (y := m12_make) (n := 16) dX12_make_197 (sa_697 hm) hb29 ?_
        obtain ⟨hb30, h⟩ := h
        refine r_iald (y := m12_make) (n := 6000) dX12_make_198 (sa_679 hm) hb30 ?_
        obtain ⟨hb31, h⟩ := h
        refine r_iast (y := m12_make) (n := 6000) dX12_make_199 (sa_679 hm) hb31 ?_
        refine r_aload_n (y := m12_make) dX12_make_200 rfl rfl ?_
        refine g_X12_44 (y := m12_make) rfl dX12_make_201 (St.i hm) ?_
        refine r_aload_n (y := m12_make) dX12_make_204 rfl rfl ?_
        refine g_X12_95 (y := m12_make) rfl dX12_make_205 (St.i hm) ?_
        refine r_iload (y := m12_make) dX12_make_208 rfl ?_
        refine r_iconst (y := m12_make) (v := 1) dX12_make_210 (by decide) ?_
        refine r_isub (y := m12_make) dX12_make_211 ?_
        obtain ⟨hb32, h⟩ := h
        refine r_iald (y := m12_make) (n := 16) dX12_make_212 (sa_697 (St.i hm)) hb32 ?_
        refine V.top (b := (mI m 697 (Int32.toNatClampNeg (v5 - 1)))) (by first | rfl | simp [mI_set, mI_setR]) ?_
        refine r_iload (y := m12_make) dX12_make_213 rfl ?_
        refine r_if_eq (y := m12_make) (tgt := 222) dX12_make_215 (by decide) (fun hc33 => ?_) (fun hc33 => ?_)
        · have h := h.1 hc33
          refine r_iload (y := m12_make) dX12_make_222 rfl ?_
          obtain ⟨hb34, h⟩ := h
          refine r_iast (y := m12_make) (n := 6000) dX12_make_224 (sa_680 (St.i hm)) hb34 ?_
          refine r_aload_n (y := m12_make) dX12_make_225 rfl rfl ?_
          refine g_X12_98 (y := m12_make) rfl dX12_make_226 (St.i (St.i hm)) ?_
          refine r_iload (y := m12_make) dX12_make_229 rfl ?_
          refine r_iconst (y := m12_make) (v := 1) dX12_make_231 (by decide) ?_
          refine r_isub (y := m12_make) dX12_make_232 ?_
          refine r_dup2 (y := m12_make) dX12_make_233 ?_
          obtain ⟨hb35, h⟩ := h
          refine r_iald (y := m12_make) (n := 16) dX12_make_234 (sa_698 (St.i (St.i hm))) hb35 ?_
          refine V.top (b := (mI m 698 (Int32.toNatClampNeg (v5 - 1)))) (by first | rfl | simp [mI_set, mI_setR]) ?_
          refine r_iconst (y := m12_make) (v := 1) dX12_make_235 (by decide) ?_
          refine r_isub (y := m12_make) dX12_make_236 ?_
          obtain ⟨hb36, h⟩ := h
          refine r_iast (y := m12_make) (n := 16) dX12_make_237 (sa_698 (St.i (St.i hm))) hb36 ?_
          exact h
        · have h := h.2 hc33
          refine r_iconst (y := m12_make) (v := (-1)) dX12_make_218 (by decide) ?_
          refine r_goto (y := m12_make) (tgt := 224) dX12_make_219 (by decide) ?_
          obtain ⟨hb37, h⟩ := h
          refine r_iast (y := m12_make) (n := 6000) dX12_make_224 (sa_680 (St.i hm)) hb37 ?_
          refine r_aload_n (y := m12_make) dX12_make_225 rfl rfl ?_
          refine g_X12_98 (y := m12_make) rfl dX12_make_226 (St.i (St.i hm)) ?_
          refine r_iload (y := m12_make) dX12_make_229 rfl ?_
          refine r_iconst (y := m12_make) (v := 1) dX12_make_231 (by decide) ?_
          refine r_isub (y := m12_make) dX12_make_232 ?_
          refine r_dup2 (y := m12_make) dX12_make_233 ?_
          obtain ⟨hb38, h⟩ := h
          refine r_iald (y := m12_make) (n := 16) dX12_make_234 (sa_698 (St.i (St.i hm))) hb38 ?_
          refine V.top (b := (mI m 698 (Int32.toNatClampNeg (v5 - 1)))) (by first | rfl | simp [mI_set, mI_setR]) ?_
          refine r_iconst (y := m12_make) (v := 1) dX12_make_235 (by decide) ?_
          refine r_isub (y := m12_make) dX12_make_236 ?_
          obtain ⟨hb39, h⟩ := h
          refine r_iast (y := m12_make) (n := 16) dX12_make_237 (sa_698 (St.i (St.i hm))) hb39 ?_
          exact h
      · have h := h.2 hc28
        refine r_iload (y := m12_make) dX12_make_180 rfl ?_
        refine r_goto (y := m12_make) (tgt := 199) dX12_make_182 (by decide) ?_
        obtain ⟨hb40, h⟩ := h
        refine r_iast (y := m12_make) (n := 6000) dX12_make_199 (sa_679 hm) hb40 ?_
        refine r_aload_n (y := m12_make) dX12_make_200 rfl rfl ?_
        refine g_X12_44 (y := m12_make) rfl dX12_make_201 (St.i hm) ?_
        refine r_aload_n (y := m12_make) dX12_make_204 rfl rfl ?_
        refine g_X12_95 (y := m12_make) rfl dX12_make_205 (St.i hm) ?_
        refine r_iload (y := m12_make) dX12_make_208 rfl ?_
        refine r_iconst (y := m12_make) (v := 1) dX12_make_210 (by decide) ?_
        refine r_isub (y := m12_make) dX12_make_211 ?_
        obtain ⟨hb41, h⟩ := h
        refine r_iald (y := m12_make) (n := 16) dX12_make_212 (sa_697 (St.i hm)) hb41 ?_
        refine V.top (b := (mI m 697 (Int32.toNatClampNeg (v5 - 1)))) (by first | rfl | simp [mI_set, mI_setR]) ?_
        refine r_iload (y := m12_make) dX12_make_213 rfl ?_
        refine r_if_eq (y := m12_make) (tgt := 222) dX12_make_215 (by decide) (fun hc42 => ?_) (fun hc42 => ?_)
        · have h := h.1 hc42
          refine r_iload (y := m12_make) dX12_make_222 rfl ?_
          obtain ⟨hb43, h⟩ := h
          refine r_iast (y := m12_make) (n := 6000) dX12_make_224 (sa_680 (St.i hm)) hb43 ?_
          refine r_aload_n (y := m12_make) dX12_make_225 rfl rfl ?_
          refine g_X12_98 (y := m12_make) rfl dX12_make_226 (St.i (St.i hm)) ?_
          refine r_iload (y := m12_make) dX12_make_229 rfl ?_
          refine r_iconst (y := m12_make) (v := 1) dX12_make_231 (by decide) ?_
          refine r_isub (y := m12_make) dX12_make_232 ?_
          refine r_dup2 (y := m12_make) dX12_make_233 ?_
          obtain ⟨hb44, h⟩ := h
          refine r_iald (y := m12_make) (n := 16) dX12_make_234 (sa_698 (St.i (St.i hm))) hb44 ?_
          refine V.top (b := (mI m 698 (Int32.toNatClampNeg (v5 - 1)))) (by first | rfl | simp [mI_set, mI_setR]) ?_
          refine r_iconst (y := m12_make) (v := 1) dX12_make_235 (by decide) ?_
          refine r_isub (y := m12_make) dX12_make_236 ?_
          obtain ⟨hb45, h⟩ := h
          refine r_iast (y := m12_make) (n := 16) dX12_make_237 (sa_698 (St.i (St.i hm))) hb45 ?_
          exact h
        · have h := h.2 hc42
          refine r_iconst (y := m12_make) (v := (-1)) dX12_make_218 (by decide) ?_
          refine r_goto (y := m12_make) (tgt := 224) dX12_make_219 (by decide) ?_
          obtain ⟨hb46, h⟩ := h
          refine r_iast (y := m12_make) (n := 6000) dX12_make_224 (sa_680 (St.i hm)) hb46 ?_
          refine r_aload_n (y := m12_make) dX12_make_225 rfl rfl ?_
          refine g_X12_98 (y := m12_make) rfl dX12_make_226 (St.i (St.i hm)) ?_
          refine r_iload (y := m12_make) dX12_make_229 rfl ?_
          refine r_iconst (y := m12_make) (v := 1) dX12_make_231 (by decide) ?_
          refine r_isub (y := m12_make) dX12_make_232 ?_
          refine r_dup2 (y := m12_make) dX12_make_233 ?_
          obtain ⟨hb47, h⟩ := h
          refine r_iald (y := m12_make) (n := 16) dX12_make_234 (sa_698 (St.i (St.i hm))) hb47 ?_
          refine V.top (b := (mI m 698 (Int32.toNatClampNeg (v5 - 1)))) (by first | rfl | simp [mI_set, mI_setR]) ?_
          refine r_iconst (y := m12_make) (v := 1) dX12_make_235 (by decide) ?_
          refine r_isub (y := m12_make) dX12_make_236 ?_
          obtain ⟨hb48, h⟩ := h
          refine r_iast (y := m12_make) (n := 16) dX12_make_237 (sa_698 (St.i (St.i hm))) hb48 ?_
          exact h
  · have h := h.2 hc1
    refine r_iload (y := m12_make) dX12_make_130 rfl ?_
    refine r_istore (y := m12_make) (L' := [some (.ref 668), some (.int v1), some (.int v2), some (.int v3), some (.int v9), some (.int v5), some (.int v6), some (.int v7), some (.int v8), some (.int v9), some (.int v10), none]) dX12_make_132 (Nat.le_of_ble_eq_true rfl) rfl ?_
    refine r_goto (y := m12_make) (tgt := 238) dX12_make_134 (by decide) ?_
    exact h
set_option maxHeartbeats 4000000 in
set_option maxRecDepth 100000 in
theorem w12_make_238 {m : Mm} {K : Option Value ⊕ String → Mm → Prop} (hm : St m) {v1 : Int32} {v2 : Int32} {v3 : Int32} {v4 : Int32} {v5 : Int32} {v6 : Int32} {v7 : Int32} {v8 : Int32} {v9 : Int32} {v10 : Int32} {v11 : Int32}  (h : ((v10 ≤ 0 → V m12_make 264 [some (.ref 668), some (.int v1), some (.int v2), some (.int v3), some (.int v4), some (.int v5), some (.int v6), some (.int v7), some (.int v8), some (.int v9), some (.int v10), some (.int v11)] [] m K) ∧ (¬ v10 ≤ 0 → vp_in v5 16 ∧ vp_in v5 16 ∧ V m12_make 264 [some (.ref 668), some (.int v1), some (.int v2), some (.int v3), some (.int v4), some (.int (v5 + 1)), some (.int v6), some (.int v7), some (.int v8), some (.int v9), some (.int v10), some (.int v11)] [] (mSetI (mSetI m 697 (Int32.toNatClampNeg v5) v9) 698 (Int32.toNatClampNeg v5) v10) K))) : V m12_make 238 [some (.ref 668), some (.int v1), some (.int v2), some (.int v3), some (.int v4), some (.int v5), some (.int v6), some (.int v7), some (.int v8), some (.int v9), some (.int v10), some (.int v11)] [] m K := by
  refine r_iload (y := m12_make) dX12_make_238 rfl ?_
  refine r_if_le (y := m12_make) (tgt := 264) dX12_make_240 (by decide) (fun hc1 => ?_) (fun hc1 => ?_)
  · have h := h.1 hc1
    exact h
  · have h := h.2 hc1
    refine r_aload_n (y := m12_make) dX12_make_243 rfl rfl ?_
    refine g_X12_95 (y := m12_make) rfl dX12_make_244 hm ?_
    refine r_iload (y := m12_make) dX12_make_247 rfl ?_
    refine r_iload (y := m12_make) dX12_make_249 rfl ?_
    obtain ⟨hb2, h⟩ := h
    refine r_iast (y := m12_make) (n := 16) dX12_make_251 (sa_697 hm) hb2 ?_
    refine r_aload_n (y := m12_make) dX12_make_252 rfl rfl ?_
    refine g_X12_98 (y := m12_make) rfl dX12_make_253 (St.i hm) ?_
    refine r_iload (y := m12_make) dX12_make_256 rfl ?_
    refine r_iload (y := m12_make) dX12_make_258 rfl ?_
    obtain ⟨hb3, h⟩ := h
    refine r_iast (y := m12_make) (n := 16) dX12_make_260 (sa_698 (St.i hm)) hb3 ?_
    refine r_iinc (y := m12_make) (v := (v5 + 1)) (L' := [some (.ref 668), some (.int v1), some (.int v2), some (.int v3), some (.int v4), some (.int (v5 + 1)), some (.int v6), some (.int v7), some (.int v8), some (.int v9), some (.int v10), some (.int v11)]) dX12_make_261 rfl (by rfl) rfl ?_
    exact h
set_option maxHeartbeats 4000000 in
set_option maxRecDepth 100000 in
theorem w12_make_264 {m : Mm} {K : Option Value ⊕ String → Mm → Prop} (hm : St m) {v1 : Int32} {v2 : Int32} {v3 : Int32} {v4 : Int32} {v5 : Int32} {v6 : Int32} {v7 : Int32} {v8 : Int32} {v9 : Int32} {v10 : Int32} {v11 : Int32}  (h : ((v5 ≤ 0 → V m12_make 287 [some (.ref 668), some (.int v1), some (.int v2), some (.int v3), some (.int v4), some (.int v5), some (.int v6), some (.int v7), some (.int v8), some (.int v9), some (.int v10), some (.int v11)] [] m K) ∧ (¬ v5 ≤ 0 → vp_in (v5 - 1) 16 ∧ ((¬ (mI m 698 (Int32.toNatClampNeg (v5 - 1))) = 0 → V m12_make 287 [some (.ref 668), some (.int v1), some (.int v2), some (.int v3), some (.int v4), some (.int v5), some (.int v6), some (.int v7), some (.int v8), some (.int v9), some (.int v10), some (.int v11)] [] m K) ∧ ((mI m 698 (Int32.toNatClampNeg (v5 - 1))) = 0 → V m12_make 264 [some (.ref 668), some (.int v1), some (.int v2), some (.int v3), some (.int v4), some (.int (v5 + (-1))), some (.int v6), some (.int v7), some (.int v8), some (.int v9), some (.int v10), some (.int v11)] [] m K))))) : V m12_make 264 [some (.ref 668), some (.int v1), some (.int v2), some (.int v3), some (.int v4), some (.int v5), some (.int v6), some (.int v7), some (.int v8), some (.int v9), some (.int v10), some (.int v11)] [] m K := by
  refine r_iload (y := m12_make) dX12_make_264 rfl ?_
  refine r_if_le (y := m12_make) (tgt := 287) dX12_make_266 (by decide) (fun hc1 => ?_) (fun hc1 => ?_)
  · have h := h.1 hc1
    exact h
  · have h := h.2 hc1
    refine r_aload_n (y := m12_make) dX12_make_269 rfl rfl ?_
    refine g_X12_98 (y := m12_make) rfl dX12_make_270 hm ?_
    refine r_iload (y := m12_make) dX12_make_273 rfl ?_
    refine r_iconst (y := m12_make) (v := 1) dX12_make_275 (by decide) ?_
    refine r_isub (y := m12_make) dX12_make_276 ?_
    obtain ⟨hb2, h⟩ := h
    refine r_iald (y := m12_make) (n := 16) dX12_make_277 (sa_698 hm) hb2 ?_
    refine r_if_ne (y := m12_make) (tgt := 287) dX12_make_278 (by decide) (fun hc3 => ?_) (fun hc3 => ?_)
    · have h := h.1 hc3
      exact h
    · have h := h.2 hc3
      refine r_iinc (y := m12_make) (v := (v5 + (-1))) (L' := [some (.ref 668), some (.int v1), some (.int v2), some (.int v3), some (.int v4), some (.int (v5 + (-1))), some (.int v6), some (.int v7), some (.int v8), some (.int v9), some (.int v10), some (.int v11)]) dX12_make_281 rfl (by rfl) rfl ?_
      refine r_goto (y := m12_make) (tgt := 264) dX12_make_284 (by decide) ?_
      exact h
set_option maxHeartbeats 4000000 in
set_option maxRecDepth 100000 in
theorem w12_make_287 {m : Mm} {K : Option Value ⊕ String → Mm → Prop} (hm : St m) {v1 : Int32} {v2 : Int32} {v3 : Int32} {v4 : Int32} {v5 : Int32} {v6 : Int32} {v7 : Int32} {v8 : Int32} {v9 : Int32} {v10 : Int32} {v11 : Int32}  (h : ((¬ v8 = 33 → ((v5 ≤ 0 → V m12_make 12 [some (.ref 668), some (.int v1), some (.int v2), some (.int v3), some (.int v4), some (.int v5), some (.int (v6 + 1)), some (.int 0), some (.int v8), some (.int v9), some (.int v10), some (.int v11)] [] m K) ∧ (¬ v5 ≤ 0 → V m12_make 12 [some (.ref 668), some (.int v1), some (.int v2), some (.int v3), some (.int v4), some (.int v5), some (.int (v6 + 1)), some (.int 1), some (.int v8), some (.int v9), some (.int v10), some (.int v11)] [] m K))) ∧ (v8 = 33 → C m12_endOf [(.ref 668), (.int v6)] m (fun o m3 => ∃ x5 : Int32, o = .inl (some (.int x5)) ∧ St m3 ∧ ((v5 ≤ 0 → V m12_make 12 [some (.ref 668), some (.int v1), some (.int v2), some (.int v3), some (.int v4), some (.int v5), some (.int x5), some (.int 0), some (.int v8), some (.int v9), some (.int v10), some (.int v11)] [] m3 K) ∧ (¬ v5 ≤ 0 → V m12_make 12 [some (.ref 668), some (.int v1), some (.int v2), some (.int v3), some (.int v4), some (.int v5), some (.int x5), some (.int 1), some (.int v8), some (.int v9), some (.int v10), some (.int v11)] [] m3 K)))))) : V m12_make 287 [some (.ref 668), some (.int v1), some (.int v2), some (.int v3), some (.int v4), some (.int v5), some (.int v6), some (.int v7), some (.int v8), some (.int v9), some (.int v10), some (.int v11)] [] m K := by
  refine r_iload (y := m12_make) dX12_make_287 rfl ?_
  refine r_bipush (y := m12_make) (v := 33) dX12_make_289 (by decide) ?_
  refine r_icmp_ne (y := m12_make) (tgt := 303) dX12_make_291 (by decide) (fun hc1 => ?_) (fun hc1 => ?_)
  · have h := h.1 hc1
    refine r_iload (y := m12_make) dX12_make_303 rfl ?_
    refine r_iconst (y := m12_make) (v := 1) dX12_make_305 (by decide) ?_
    refine r_iadd (y := m12_make) dX12_make_306 ?_
    refine r_istore (y := m12_make) (L' := [some (.ref 668), some (.int v1), some (.int v2), some (.int v3), some (.int v4), some (.int v5), some (.int (v6 + 1)), some (.int v7), some (.int v8), some (.int v9), some (.int v10), some (.int v11)]) dX12_make_307 (Nat.le_of_ble_eq_true rfl) rfl ?_
    refine r_iload (y := m12_make) dX12_make_309 rfl ?_
    refine r_if_le (y := m12_make) (tgt := 318) dX12_make_311 (by decide) (fun hc2 => ?_) (fun hc2 => ?_)
    · have h := h.1 hc2
      refine r_iconst (y := m12_make) (v := 0) dX12_make_318 (by decide) ?_
      refine r_istore (y := m12_make) (L' := [some (.ref 668), some (.int v1), some (.int v2), some (.int v3), some (.int v4), some (.int v5), some (.int (v6 + 1)), some (.int 0), some (.int v8), some (.int v9), some (.int v10), some (.int v11)]) dX12_make_319 (Nat.le_of_ble_eq_true rfl) rfl ?_
      refine r_goto (y := m12_make) (tgt := 12) dX12_make_321 (by decide) ?_
      exact h
    · have h := h.2 hc2
      refine r_iconst (y := m12_make) (v := 1) dX12_make_314 (by decide) ?_
      refine r_goto (y := m12_make) (tgt := 319) dX12_make_315 (by decide) ?_
      refine r_istore (y := m12_make) (L' := [some (.ref 668), some (.int v1), some (.int v2), some (.int v3), some (.int v4), some (.int v5), some (.int (v6 + 1)), some (.int 1), some (.int v8), some (.int v9), some (.int v10), some (.int v11)]) dX12_make_319 (Nat.le_of_ble_eq_true rfl) rfl ?_
      refine r_goto (y := m12_make) (tgt := 12) dX12_make_321 (by decide) ?_
      exact h
  · have h := h.2 hc1
    refine r_aload_n (y := m12_make) dX12_make_294 rfl rfl ?_
    refine r_iload (y := m12_make) dX12_make_295 rfl ?_
    refine r_callV (y := m12_make) (As := [(.int v6)]) (b := 668) (ci := 12) dX12_make_297 rfl k12_endOf lm_X12_201 rfl ⟨by decide, by decide⟩ (so_668 hm) (by decide) rfl (Nat.le_of_ble_eq_true rfl) (C.mono h ?_)
    rintro _ m3 ⟨x5, rfl, hm4, h⟩
    refine ⟨_, rfl, ?_⟩
    refine r_goto (y := m12_make) (tgt := 307) dX12_make_300 (by decide) ?_
    refine r_istore (y := m12_make) (L' := [some (.ref 668), some (.int v1), some (.int v2), some (.int v3), some (.int v4), some (.int v5), some (.int x5), some (.int v7), some (.int v8), some (.int v9), some (.int v10), some (.int v11)]) dX12_make_307 (Nat.le_of_ble_eq_true rfl) rfl ?_
    refine r_iload (y := m12_make) dX12_make_309 rfl ?_
    refine r_if_le (y := m12_make) (tgt := 318) dX12_make_311 (by decide) (fun hc6 => ?_) (fun hc6 => ?_)
    · have h := h.1 hc6
      refine r_iconst (y := m12_make) (v := 0) dX12_make_318 (by decide) ?_
      refine r_istore (y := m12_make) (L' := [some (.ref 668), some (.int v1), some (.int v2), some (.int v3), some (.int v4), some (.int v5), some (.int x5), some (.int 0), some (.int v8), some (.int v9), some (.int v10), some (.int v11)]) dX12_make_319 (Nat.le_of_ble_eq_true rfl) rfl ?_
      refine r_goto (y := m12_make) (tgt := 12) dX12_make_321 (by decide) ?_
      exact h
    · have h := h.2 hc6
      refine r_iconst (y := m12_make) (v := 1) dX12_make_314 (by decide) ?_
      refine r_goto (y := m12_make) (tgt := 319) dX12_make_315 (by decide) ?_
      refine r_istore (y := m12_make) (L' := [some (.ref 668), some (.int v1), some (.int v2), some (.int v3), some (.int v4), some (.int v5), some (.int x5), some (.int 1), some (.int v8), some (.int v9), some (.int v10), some (.int v11)]) dX12_make_319 (Nat.le_of_ble_eq_true rfl) rfl ?_
      refine r_goto (y := m12_make) (tgt := 12) dX12_make_321 (by decide) ?_
      exact h
set_option maxHeartbeats 4000000 in
set_option maxRecDepth 100000 in
theorem w12_task {m : Mm} {K : Option Value ⊕ String → Mm → Prop} (hm : St m) {a0 : Int32} {a1 : Int32} {a2 : Int32} {a3 : Int32}  (h : vp_in (mI m 668 24) 20000 ∧ vp_in (mI m 668 24) 20000 ∧ vp_in (mI m 668 24) 20000 ∧ vp_in (mI m 668 24) 20000 ∧ K (.inl none) (mSetI (mSetI (mSetI (mSetI (mSetI m 686 (Int32.toNatClampNeg (mI m 668 24)) a0) 687 (Int32.toNatClampNeg (mI m 668 24)) a1) 688 (Int32.toNatClampNeg (mI m 668 24)) a2) 689 (Int32.toNatClampNeg (mI m 668 24)) a3) 668 24 ((mI m 668 24) + 1))) : V m12_task 0 [some (.ref 668), some (.int a0), some (.int a1), some (.int a2), some (.int a3)] [] m K := by
  refine r_aload_n (y := m12_task) dX12_task_0 rfl rfl ?_
  refine g_X12_62 (y := m12_task) rfl dX12_task_1 hm ?_
  refine r_aload_n (y := m12_task) dX12_task_4 rfl rfl ?_
  refine g_X12_239 (y := m12_task) rfl dX12_task_5 hm ?_
  refine r_iload_n (y := m12_task) dX12_task_8 rfl rfl ?_
  obtain ⟨hb1, h⟩ := h
  refine r_iast (y := m12_task) (n := 20000) dX12_task_9 (sa_686 hm) hb1 ?_
  refine r_aload_n (y := m12_task) dX12_task_10 rfl rfl ?_
  refine g_X12_65 (y := m12_task) rfl dX12_task_11 (St.i hm) ?_
  refine r_aload_n (y := m12_task) dX12_task_14 rfl rfl ?_
  refine g_X12_239 (y := m12_task) rfl dX12_task_15 (St.i hm) ?_
  refine V.top (b := (mI m 668 24)) (by first | rfl | simp [mI_set, mI_setR]) ?_
  refine r_iload_n (y := m12_task) dX12_task_18 rfl rfl ?_
  obtain ⟨hb2, h⟩ := h
  refine r_iast (y := m12_task) (n := 20000) dX12_task_19 (sa_687 (St.i hm)) hb2 ?_
  refine r_aload_n (y := m12_task) dX12_task_20 rfl rfl ?_
  refine g_X12_68 (y := m12_task) rfl dX12_task_21 (St.i (St.i hm)) ?_
  refine r_aload_n (y := m12_task) dX12_task_24 rfl rfl ?_
  refine g_X12_239 (y := m12_task) rfl dX12_task_25 (St.i (St.i hm)) ?_
  refine V.top (b := (mI m 668 24)) (by first | rfl | simp [mI_set, mI_setR]) ?_
  refine r_iload_n (y := m12_task) dX12_task_28 rfl rfl ?_
  obtain ⟨hb3, h⟩ := h
  refine r_iast (y := m12_task) (n := 20000) dX12_task_29 (sa_688 (St.i (St.i hm))) hb3 ?_
  refine r_aload_n (y := m12_task) dX12_task_30 rfl rfl ?_
  refine g_X12_71 (y := m12_task) rfl dX12_task_31 (St.i (St.i (St.i hm))) ?_
  refine r_aload_n (y := m12_task) dX12_task_34 rfl rfl ?_
  refine g_X12_239 (y := m12_task) rfl dX12_task_35 (St.i (St.i (St.i hm))) ?_
  refine V.top (b := (mI m 668 24)) (by first | rfl | simp [mI_set, mI_setR]) ?_
  refine r_iload (y := m12_task) dX12_task_38 rfl ?_
  obtain ⟨hb4, h⟩ := h
  refine r_iast (y := m12_task) (n := 20000) dX12_task_40 (sa_689 (St.i (St.i (St.i hm)))) hb4 ?_
  refine r_aload_n (y := m12_task) dX12_task_41 rfl rfl ?_
  refine r_dup_r (y := m12_task) dX12_task_42 ?_
  refine g_X12_239 (y := m12_task) rfl dX12_task_43 (St.i (St.i (St.i (St.i hm)))) ?_
  refine V.top (b := (mI m 668 24)) (by first | rfl | simp [mI_set, mI_setR]) ?_
  refine r_iconst (y := m12_task) (v := 1) dX12_task_46 (by decide) ?_
  refine r_iadd (y := m12_task) dX12_task_47 ?_
  refine p_X12_239 (y := m12_task) rfl dX12_task_48 (St.i (St.i (St.i (St.i hm)))) ?_
  exact r_ret (y := m12_task) dX12_task_51 rfl h
set_option maxHeartbeats 4000000 in
set_option maxRecDepth 100000 in
theorem w12_step {m : Mm} {K : Option Value ⊕ String → Mm → Prop} (hm : St m)   (h : ((¬ (mI m 668 30) = 100 → K (.inl none) (mSetI m 668 30 ((mI m 668 30) + 1))) ∧ ((mI m 668 30) = 100 → K (.inl none) (mSetI m 668 29 4)))) : V m12_step 0 [some (.ref 668)] [] m K := by
  refine r_aload_n (y := m12_step) dX12_step_0 rfl rfl ?_
  refine g_X12_242 (y := m12_step) rfl dX12_step_1 hm ?_
  refine r_bipush (y := m12_step) (v := 100) dX12_step_4 (by decide) ?_
  refine r_icmp_ne (y := m12_step) (tgt := 17) dX12_step_6 (by decide) (fun hc1 => ?_) (fun hc1 => ?_)
  · have h := h.1 hc1
    refine r_aload_n (y := m12_step) dX12_step_17 rfl rfl ?_
    refine r_dup_r (y := m12_step) dX12_step_18 ?_
    refine g_X12_242 (y := m12_step) rfl dX12_step_19 hm ?_
    refine r_iconst (y := m12_step) (v := 1) dX12_step_22 (by decide) ?_
    refine r_iadd (y := m12_step) dX12_step_23 ?_
    refine p_X12_242 (y := m12_step) rfl dX12_step_24 hm ?_
    exact r_ret (y := m12_step) dX12_step_27 rfl h
  · have h := h.2 hc1
    refine r_aload_n (y := m12_step) dX12_step_9 rfl rfl ?_
    refine r_iconst (y := m12_step) (v := 4) dX12_step_10 (by decide) ?_
    refine p_X12_245 (y := m12_step) rfl dX12_step_11 hm ?_
    refine r_goto (y := m12_step) (tgt := 27) dX12_step_14 (by decide) ?_
    exact r_ret (y := m12_step) dX12_step_27 rfl h
set_option maxHeartbeats 4000000 in
set_option maxRecDepth 100000 in
theorem w12_decide {m : Mm} {K : Option Value ⊕ String → Mm → Prop} (hm : St m) {a0 : Int32} {a1 : Int32}  (h : vp_in a0 110 ∧ vp_in a0 110 ∧ ((¬ (mI m 694 (Int32.toNatClampNeg a0)) = 40 → vp_in a0 110 ∧ vp_in a0 110 ∧ ((¬ (mI m 694 (Int32.toNatClampNeg a0)) = (mI m 693 (Int32.toNatClampNeg a0)) → vp_in a0 110 ∧ vp_in a0 110 ∧ ((¬ (mI m 694 (Int32.toNatClampNeg a0)) = (mI m 693 (Int32.toNatClampNeg a0)) → vp_in ((41 * a0) + (mI m 694 (Int32.toNatClampNeg a0))) 4510 ∧ vp_in a0 110 ∧ vp_in a0 110 ∧ vp_in ((41 * a0) + (mI m 694 (Int32.toNatClampNeg a0))) 4510 ∧ K (.inl (some (.int (mI m 695 (Int32.toNatClampNeg ((41 * a0) + (mI m 694 (Int32.toNatClampNeg a0)))))))) (mSetI (mSetI m 696 (Int32.toNatClampNeg ((41 * a0) + (mI m 694 (Int32.toNatClampNeg a0)))) a1) 694 (Int32.toNatClampNeg a0) ((mI m 694 (Int32.toNatClampNeg a0)) + 1))) ∧ ((mI m 694 (Int32.toNatClampNeg a0)) = (mI m 693 (Int32.toNatClampNeg a0)) → vp_in ((41 * a0) + (mI m 694 (Int32.toNatClampNeg a0))) 4510 ∧ vp_in a0 110 ∧ vp_in a0 110 ∧ vp_in ((41 * a0) + (mI m 694 (Int32.toNatClampNeg a0))) 4510 ∧ vp_in a0 110 ∧ vp_in a0 110 ∧ vp_in ((41 * a0) + (mI m 694 (Int32.toNatClampNeg a0))) 4510 ∧ K (.inl (some (.int 0))) (mSetI (mSetI (mSetI (mSetI m 695 (Int32.toNatClampNeg ((41 * a0) + (mI m 694 (Int32.toNatClampNeg a0)))) 0) 693 (Int32.toNatClampNeg a0) ((mI m 693 (Int32.toNatClampNeg a0)) + 1)) 696 (Int32.toNatClampNeg ((41 * a0) + (mI m 694 (Int32.toNatClampNeg a0)))) a1) 694 (Int32.toNatClampNeg a0) ((mI m 694 (Int32.toNatClampNeg a0)) + 1))))) ∧ ((mI m 694 (Int32.toNatClampNeg a0)) = (mI m 693 (Int32.toNatClampNeg a0)) → ((¬ a0 = 0 → vp_in a0 110 ∧ vp_in a0 110 ∧ ((¬ (mI m 694 (Int32.toNatClampNeg a0)) = (mI m 693 (Int32.toNatClampNeg a0)) → vp_in ((41 * a0) + (mI m 694 (Int32.toNatClampNeg a0))) 4510 ∧ vp_in a0 110 ∧ vp_in a0 110 ∧ vp_in ((41 * a0) + (mI m 694 (Int32.toNatClampNeg a0))) 4510 ∧ K (.inl (some (.int (mI m 695 (Int32.toNatClampNeg ((41 * a0) + (mI m 694 (Int32.toNatClampNeg a0)))))))) (mSetI (mSetI m 696 (Int32.toNatClampNeg ((41 * a0) + (mI m 694 (Int32.toNatClampNeg a0)))) a1) 694 (Int32.toNatClampNeg a0) ((mI m 694 (Int32.toNatClampNeg a0)) + 1))) ∧ ((mI m 694 (Int32.toNatClampNeg a0)) = (mI m 693 (Int32.toNatClampNeg a0)) → vp_in ((41 * a0) + (mI m 694 (Int32.toNatClampNeg a0))) 4510 ∧ vp_in a0 110 ∧ vp_in a0 110 ∧ vp_in ((41 * a0) + (mI m 694 (Int32.toNatClampNeg a0))) 4510 ∧ vp_in a0 110 ∧ vp_in a0 110 ∧ vp_in ((41 * a0) + (mI m 694 (Int32.toNatClampNeg a0))) 4510 ∧ K (.inl (some (.int 0))) (mSetI (mSetI (mSetI (mSetI m 695 (Int32.toNatClampNeg ((41 * a0) + (mI m 694 (Int32.toNatClampNeg a0)))) 0) 693 (Int32.toNatClampNeg a0) ((mI m 693 (Int32.toNatClampNeg a0)) + 1)) 696 (Int32.toNatClampNeg ((41 * a0) + (mI m 694 (Int32.toNatClampNeg a0)))) a1) 694 (Int32.toNatClampNeg a0) ((mI m 694 (Int32.toNatClampNeg a0)) + 1))))) ∧ (a0 = 0 → K (.inl (some (.int 0))) (mSetI (mSetI m 668 29 5) 668 39 a1)))))) ∧ ((mI m 694 (Int32.toNatClampNeg a0)) = 40 → K (.inl (some (.int 0))) (mSetI m 668 29 4)))) : V m12_decide 0 [some (.ref 668), some (.int a0), some (.int a1), none] [] m K := by
  refine r_bipush (y := m12_decide) (v := 41) dX12_decide_0 (by decide) ?_
  refine r_iload_n (y := m12_decide) dX12_decide_2 rfl rfl ?_
  refine r_imul (y := m12_decide) dX12_decide_3 ?_
  refine r_aload_n (y := m12_decide) dX12_decide_4 rfl rfl ?_
  refine g_X12_86 (y := m12_decide) rfl dX12_decide_5 hm ?_
  refine r_iload_n (y := m12_decide) dX12_decide_8 rfl rfl ?_
  obtain ⟨hb1, h⟩ := h
  refine r_iald (y := m12_decide) (n := 110) dX12_decide_9 (sa_694 hm) hb1 ?_
  refine r_iadd (y := m12_decide) dX12_decide_10 ?_
  refine r_istore_n (y := m12_decide) (L' := [some (.ref 668), some (.int a0), some (.int a1), some (.int ((41 * a0) + (mI m 694 (Int32.toNatClampNeg a0))))]) dX12_decide_11 rfl (Nat.le_of_ble_eq_true rfl) rfl ?_
  refine r_aload_n (y := m12_decide) dX12_decide_12 rfl rfl ?_
  refine g_X12_86 (y := m12_decide) rfl dX12_decide_13 hm ?_
  refine r_iload_n (y := m12_decide) dX12_decide_16 rfl rfl ?_
  obtain ⟨hb2, h⟩ := h
  refine r_iald (y := m12_decide) (n := 110) dX12_decide_17 (sa_694 hm) hb2 ?_
  refine r_bipush (y := m12_decide) (v := 40) dX12_decide_18 (by decide) ?_
  refine r_icmp_ne (y := m12_decide) (tgt := 30) dX12_decide_20 (by decide) (fun hc3 => ?_) (fun hc3 => ?_)
  · have h := h.1 hc3
    refine r_aload_n (y := m12_decide) dX12_decide_30 rfl rfl ?_
    refine g_X12_86 (y := m12_decide) rfl dX12_decide_31 hm ?_
    refine r_iload_n (y := m12_decide) dX12_decide_34 rfl rfl ?_
    obtain ⟨hb4, h⟩ := h
    refine r_iald (y := m12_decide) (n := 110) dX12_decide_35 (sa_694 hm) hb4 ?_
    refine r_aload_n (y := m12_decide) dX12_decide_36 rfl rfl ?_
    refine g_X12_83 (y := m12_decide) rfl dX12_decide_37 hm ?_
    refine r_iload_n (y := m12_decide) dX12_decide_40 rfl rfl ?_
    obtain ⟨hb5, h⟩ := h
    refine r_iald (y := m12_decide) (n := 110) dX12_decide_41 (sa_693 hm) hb5 ?_
    refine r_icmp_ne (y := m12_decide) (tgt := 61) dX12_decide_42 (by decide) (fun hc6 => ?_) (fun hc6 => ?_)
    · have h := h.1 hc6
      refine r_aload_n (y := m12_decide) dX12_decide_61 rfl rfl ?_
      refine g_X12_86 (y := m12_decide) rfl dX12_decide_62 hm ?_
      refine r_iload_n (y := m12_decide) dX12_decide_65 rfl rfl ?_
      obtain ⟨hb7, h⟩ := h
      refine r_iald (y := m12_decide) (n := 110) dX12_decide_66 (sa_694 hm) hb7 ?_
      refine r_aload_n (y := m12_decide) dX12_decide_67 rfl rfl ?_
      refine g_X12_83 (y := m12_decide) rfl dX12_decide_68 hm ?_
      refine r_iload_n (y := m12_decide) dX12_decide_71 rfl rfl ?_
      obtain ⟨hb8, h⟩ := h
      refine r_iald (y := m12_decide) (n := 110) dX12_decide_72 (sa_693 hm) hb8 ?_
      refine r_icmp_ne (y := m12_decide) (tgt := 93) dX12_decide_73 (by decide) (fun hc9 => ?_) (fun hc9 => ?_)
      · have h := h.1 hc9
        refine r_aload_n (y := m12_decide) dX12_decide_93 rfl rfl ?_
        refine g_X12_92 (y := m12_decide) rfl dX12_decide_94 hm ?_
        refine r_iload_n (y := m12_decide) dX12_decide_97 rfl rfl ?_
        refine r_iload_n (y := m12_decide) dX12_decide_98 rfl rfl ?_
        obtain ⟨hb10, h⟩ := h
        refine r_iast (y := m12_decide) (n := 4510) dX12_decide_99 (sa_696 hm) hb10 ?_
        refine r_aload_n (y := m12_decide) dX12_decide_100 rfl rfl ?_
        refine g_X12_86 (y := m12_decide) rfl dX12_decide_101 (St.i hm) ?_
        refine r_iload_n (y := m12_decide) dX12_decide_104 rfl rfl ?_
        refine r_dup2 (y := m12_decide) dX12_decide_105 ?_
        obtain ⟨hb11, h⟩ := h
        refine r_iald (y := m12_decide) (n := 110) dX12_decide_106 (sa_694 (St.i hm)) hb11 ?_
        refine V.top (b := (mI m 694 (Int32.toNatClampNeg a0))) (by first | rfl | simp [mI_set, mI_setR]) ?_
        refine r_iconst (y := m12_decide) (v := 1) dX12_decide_107 (by decide) ?_
        refine r_iadd (y := m12_decide) dX12_decide_108 ?_
        obtain ⟨hb12, h⟩ := h
        refine r_iast (y := m12_decide) (n := 110) dX12_decide_109 (sa_694 (St.i hm)) hb12 ?_
        refine r_aload_n (y := m12_decide) dX12_decide_110 rfl rfl ?_
        refine g_X12_89 (y := m12_decide) rfl dX12_decide_111 (St.i (St.i hm)) ?_
        refine r_iload_n (y := m12_decide) dX12_decide_114 rfl rfl ?_
        obtain ⟨hb13, h⟩ := h
        refine r_iald (y := m12_decide) (n := 4510) dX12_decide_115 (sa_695 (St.i (St.i hm))) hb13 ?_
        refine V.top (b := (mI m 695 (Int32.toNatClampNeg ((41 * a0) + (mI m 694 (Int32.toNatClampNeg a0)))))) (by first | rfl | simp [mI_set, mI_setR]) ?_
        exact r_iret (y := m12_decide) dX12_decide_116 rfl rfl h
      · have h := h.2 hc9
        refine r_aload_n (y := m12_decide) dX12_decide_76 rfl rfl ?_
        refine g_X12_89 (y := m12_decide) rfl dX12_decide_77 hm ?_
        refine r_iload_n (y := m12_decide) dX12_decide_80 rfl rfl ?_
        refine r_iconst (y := m12_decide) (v := 0) dX12_decide_81 (by decide) ?_
        obtain ⟨hb14, h⟩ := h
        refine r_iast (y := m12_decide) (n := 4510) dX12_decide_82 (sa_695 hm) hb14 ?_
        refine r_aload_n (y := m12_decide) dX12_decide_83 rfl rfl ?_
        refine g_X12_83 (y := m12_decide) rfl dX12_decide_84 (St.i hm) ?_
        refine r_iload_n (y := m12_decide) dX12_decide_87 rfl rfl ?_
        refine r_dup2 (y := m12_decide) dX12_decide_88 ?_
        obtain ⟨hb15, h⟩ := h
        refine r_iald (y := m12_decide) (n := 110) dX12_decide_89 (sa_693 (St.i hm)) hb15 ?_
        refine V.top (b := (mI m 693 (Int32.toNatClampNeg a0))) (by first | rfl | simp [mI_set, mI_setR]) ?_
        refine r_iconst (y := m12_decide) (v := 1) dX12_decide_90 (by decide) ?_
        refine r_iadd (y := m12_decide) dX12_decide_91 ?_
        obtain ⟨hb16, h⟩ := h
        refine r_iast (y := m12_decide) (n := 110) dX12_decide_92 (sa_693 (St.i hm)) hb16 ?_
        refine r_aload_n (y := m12_decide) dX12_decide_93 rfl rfl ?_
        refine g_X12_92 (y := m12_decide) rfl dX12_decide_94 (St.i (St.i hm)) ?_
        refine r_iload_n (y := m12_decide) dX12_decide_97 rfl rfl ?_
        refine r_iload_n (y := m12_decide) dX12_decide_98 rfl rfl ?_
        obtain ⟨hb17, h⟩ := h
        refine r_iast (y := m12_decide) (n := 4510) dX12_decide_99 (sa_696 (St.i (St.i hm))) hb17 ?_
        refine r_aload_n (y := m12_decide) dX12_decide_100 rfl rfl ?_
        refine g_X12_86 (y := m12_decide) rfl dX12_decide_101 (St.i (St.i (St.i hm))) ?_
        refine r_iload_n (y := m12_decide) dX12_decide_104 rfl rfl ?_
        refine r_dup2 (y := m12_decide) dX12_decide_105 ?_
        obtain ⟨hb18, h⟩ := h
        refine r_iald (y := m12_decide) (n := 110) dX12_decide_106 (sa_694 (St.i (St.i (St.i hm)))) hb18 ?_
        refine V.top (b := (mI m 694 (Int32.toNatClampNeg a0))) (by first | rfl | simp [mI_set, mI_setR]) ?_
        refine r_iconst (y := m12_decide) (v := 1) dX12_decide_107 (by decide) ?_
        refine r_iadd (y := m12_decide) dX12_decide_108 ?_
        obtain ⟨hb19, h⟩ := h
        refine r_iast (y := m12_decide) (n := 110) dX12_decide_109 (sa_694 (St.i (St.i (St.i hm)))) hb19 ?_
        refine r_aload_n (y := m12_decide) dX12_decide_110 rfl rfl ?_
        refine g_X12_89 (y := m12_decide) rfl dX12_decide_111 (St.i (St.i (St.i (St.i hm)))) ?_
        refine r_iload_n (y := m12_decide) dX12_decide_114 rfl rfl ?_
        obtain ⟨hb20, h⟩ := h
        refine r_iald (y := m12_decide) (n := 4510) dX12_decide_115 (sa_695 (St.i (St.i (St.i (St.i hm))))) hb20 ?_
        refine V.top (b := 0) (by first | rfl | simp [mI_set, mI_setR]) ?_
        exact r_iret (y := m12_decide) dX12_decide_116 rfl rfl h
    · have h := h.2 hc6
      refine r_iload_n (y := m12_decide) dX12_decide_45 rfl rfl ?_
      refine r_if_ne (y := m12_decide) (tgt := 61) dX12_decide_46 (by decide) (fun hc21 => ?_) (fun hc21 => ?_)
      · have h := h.1 hc21
        refine r_aload_n (y := m12_decide) dX12_decide_61 rfl rfl ?_
        refine g_X12_86 (y := m12_decide) rfl dX12_decide_62 hm ?_
        refine r_iload_n (y := m12_decide) dX12_decide_65 rfl rfl ?_
        obtain ⟨hb22, h⟩ := h
        refine r_iald (y := m12_decide) (n := 110) dX12_decide_66 (sa_694 hm) hb22 ?_
        refine r_aload_n (y := m12_decide) dX12_decide_67 rfl rfl ?_
        refine g_X12_83 (y := m12_decide) rfl dX12_decide_68 hm ?_
        refine r_iload_n (y := m12_decide) dX12_decide_71 rfl rfl ?_
        obtain ⟨hb23, h⟩ := h
        refine r_iald (y := m12_decide) (n := 110) dX12_decide_72 (sa_693 hm) hb23 ?_
        refine r_icmp_ne (y := m12_decide) (tgt := 93) dX12_decide_73 (by decide) (fun hc24 => ?_) (fun hc24 => ?_)
        · have h := h.1 hc24
          refine r_aload_n (y := m12_decide) dX12_decide_93 rfl rfl ?_
          refine g_X12_92 (y := m12_decide) rfl dX12_decide_94 hm ?_
          refine r_iload_n (y := m12_decide) dX12_decide_97 rfl rfl ?_
          refine r_iload_n (y := m12_decide) dX12_decide_98 rfl rfl ?_
          obtain ⟨hb25, h⟩ := h
          refine r_iast (y := m12_decide) (n := 4510) dX12_decide_99 (sa_696 hm) hb25 ?_
          refine r_aload_n (y := m12_decide) dX12_decide_100 rfl rfl ?_
          refine g_X12_86 (y := m12_decide) rfl dX12_decide_101 (St.i hm) ?_
          refine r_iload_n (y := m12_decide) dX12_decide_104 rfl rfl ?_
          refine r_dup2 (y := m12_decide) dX12_decide_105 ?_
          obtain ⟨hb26, h⟩ := h
          refine r_iald (y := m12_decide) (n := 110) dX12_decide_106 (sa_694 (St.i hm)) hb26 ?_
          refine V.top (b := (mI m 694 (Int32.toNatClampNeg a0))) (by first | rfl | simp [mI_set, mI_setR]) ?_
          refine r_iconst (y := m12_decide) (v := 1) dX12_decide_107 (by decide) ?_
          refine r_iadd (y := m12_decide) dX12_decide_108 ?_
          obtain ⟨hb27, h⟩ := h
          refine r_iast (y := m12_decide) (n := 110) dX12_decide_109 (sa_694 (St.i hm)) hb27 ?_
          refine r_aload_n (y := m12_decide) dX12_decide_110 rfl rfl ?_
          refine g_X12_89 (y := m12_decide) rfl dX12_decide_111 (St.i (St.i hm)) ?_
          refine r_iload_n (y := m12_decide) dX12_decide_114 rfl rfl ?_
          obtain ⟨hb28, h⟩ := h
          refine r_iald (y := m12_decide) (n := 4510) dX12_decide_115 (sa_695 (St.i (St.i hm))) hb28 ?_
          refine V.top (b := (mI m 695 (Int32.toNatClampNeg ((41 * a0) + (mI m 694 (Int32.toNatClampNeg a0)))))) (by first | rfl | simp [mI_set, mI_setR]) ?_
          exact r_iret (y := m12_decide) dX12_decide_116 rfl rfl h
        · have h := h.2 hc24
          refine r_aload_n (y := m12_decide) dX12_decide_76 rfl rfl ?_
          refine g_X12_89 (y := m12_decide) rfl dX12_decide_77 hm ?_
          refine r_iload_n (y := m12_decide) dX12_decide_80 rfl rfl ?_
          refine r_iconst (y := m12_decide) (v := 0) dX12_decide_81 (by decide) ?_
          obtain ⟨hb29, h⟩ := h
          refine r_iast (y := m12_decide) (n := 4510) dX12_decide_82 (sa_695 hm) hb29 ?_
          refine r_aload_n (y := m12_decide) dX12_decide_83 rfl rfl ?_
          refine g_X12_83 (y := m12_decide) rfl dX12_decide_84 (St.i hm) ?_
          refine r_iload_n (y := m12_decide) dX12_decide_87 rfl rfl ?_
          refine r_dup2 (y := m12_decide) dX12_decide_88 ?_
          obtain ⟨hb30, h⟩ := h
          refine r_iald (y := m12_decide) (n := 110) dX12_decide_89 (sa_693 (St.i hm)) hb30 ?_
          refine V.top (b := (mI m 693 (Int32.toNatClampNeg a0))) (by first | rfl | simp [mI_set, mI_setR]) ?_
          refine r_iconst (y := m12_decide) (v := 1) dX12_decide_90 (by decide) ?_
          refine r_iadd (y := m12_decide) dX12_decide_91 ?_
          obtain ⟨hb31, h⟩ := h
          refine r_iast (y := m12_decide) (n := 110) dX12_decide_92 (sa_693 (St.i hm)) hb31 ?_
          refine r_aload_n (y := m12_decide) dX12_decide_93 rfl rfl ?_
          refine g_X12_92 (y := m12_decide) rfl dX12_decide_94 (St.i (St.i hm)) ?_
          refine r_iload_n (y := m12_decide) dX12_decide_97 rfl rfl ?_
          refine r_iload_n (y := m12_decide) dX12_decide_98 rfl rfl ?_
          obtain ⟨hb32, h⟩ := h
          refine r_iast (y := m12_decide) (n := 4510) dX12_decide_99 (sa_696 (St.i (St.i hm))) hb32 ?_
          refine r_aload_n (y := m12_decide) dX12_decide_100 rfl rfl ?_
          refine g_X12_86 (y := m12_decide) rfl dX12_decide_101 (St.i (St.i (St.i hm))) ?_
          refine r_iload_n (y := m12_decide) dX12_decide_104 rfl rfl ?_
          refine r_dup2 (y := m12_decide) dX12_decide_105 ?_
          obtain ⟨hb33, h⟩ := h
          refine r_iald (y := m12_decide) (n := 110) dX12_decide_106 (sa_694 (St.i (St.i (St.i hm)))) hb33 ?_
          refine V.top (b := (mI m 694 (Int32.toNatClampNeg a0))) (by first | rfl | simp [mI_set, mI_setR]) ?_
          refine r_iconst (y := m12_decide) (v := 1) dX12_decide_107 (by decide) ?_
          refine r_iadd (y := m12_decide) dX12_decide_108 ?_
          obtain ⟨hb34, h⟩ := h
          refine r_iast (y := m12_decide) (n := 110) dX12_decide_109 (sa_694 (St.i (St.i (St.i hm)))) hb34 ?_
          refine r_aload_n (y := m12_decide) dX12_decide_110 rfl rfl ?_
          refine g_X12_89 (y := m12_decide) rfl dX12_decide_111 (St.i (St.i (St.i (St.i hm)))) ?_
          refine r_iload_n (y := m12_decide) dX12_decide_114 rfl rfl ?_
          obtain ⟨hb35, h⟩ := h
          refine r_iald (y := m12_decide) (n := 4510) dX12_decide_115 (sa_695 (St.i (St.i (St.i (St.i hm))))) hb35 ?_
          refine V.top (b := 0) (by first | rfl | simp [mI_set, mI_setR]) ?_
          exact r_iret (y := m12_decide) dX12_decide_116 rfl rfl h
      · have h := h.2 hc21
        refine r_aload_n (y := m12_decide) dX12_decide_49 rfl rfl ?_
        refine r_iconst (y := m12_decide) (v := 5) dX12_decide_50 (by decide) ?_
        refine p_X12_245 (y := m12_decide) rfl dX12_decide_51 hm ?_
        refine r_aload_n (y := m12_decide) dX12_decide_54 rfl rfl ?_
        refine r_iload_n (y := m12_decide) dX12_decide_55 rfl rfl ?_
        refine p_X12_248 (y := m12_decide) rfl dX12_decide_56 (St.i hm) ?_
        refine r_iconst (y := m12_decide) (v := 0) dX12_decide_59 (by decide) ?_
        exact r_iret (y := m12_decide) dX12_decide_60 rfl rfl h
  · have h := h.2 hc3
    refine r_aload_n (y := m12_decide) dX12_decide_23 rfl rfl ?_
    refine r_iconst (y := m12_decide) (v := 4) dX12_decide_24 (by decide) ?_
    refine p_X12_245 (y := m12_decide) rfl dX12_decide_25 hm ?_
    refine r_iconst (y := m12_decide) (v := 0) dX12_decide_28 (by decide) ?_
    exact r_iret (y := m12_decide) dX12_decide_29 rfl rfl h
set_option maxHeartbeats 4000000 in
set_option maxRecDepth 100000 in
theorem w12_attempt {m : Mm} {K : Option Value ⊕ String → Mm → Prop} (hm : St m)   (h : vp_in (mI m 668 31) 110 ∧ ((¬ (mI m 692 (Int32.toNatClampNeg (mI m 668 31))) = 20 → vp_in (mI m 668 31) 110 ∧ vp_in (mI m 668 31) 110 ∧ C m12_step [(.ref 668)] (mSetI m 692 (Int32.toNatClampNeg (mI m 668 31)) ((mI m 692 (Int32.toNatClampNeg (mI m 668 31))) + 1)) (fun o m5 => o = .inl none ∧ St m5 ∧ ((¬ (mI m5 668 29) = 0 → K (.inl none) m5) ∧ ((mI m5 668 29) = 0 → vp_in (mI m5 668 31) 110 ∧ vp_in (mI m5 668 31) 110 ∧ vp_in (mI m5 691 (Int32.toNatClampNeg (mI m5 668 31))) 6000 ∧ vp_in (mI m5 691 (Int32.toNatClampNeg (mI m5 668 31))) 6000 ∧ C m12_make [(.ref 668), (.int (mI m5 678 (Int32.toNatClampNeg (mI m5 691 (Int32.toNatClampNeg (mI m5 668 31)))))), (.int (mI m5 682 (Int32.toNatClampNeg (mI m5 691 (Int32.toNatClampNeg (mI m5 668 31)))))), (.int (mI m5 668 31))] (mSetI m5 694 (Int32.toNatClampNeg (mI m5 668 31)) 0) (fun o m12 => ∃ x14 : Int32, o = .inl (some (.int x14)) ∧ St m12 ∧ C m12_task [(.ref 668), (.int 9), (.int (mI m5 691 (Int32.toNatClampNeg (mI m5 668 31)))), (.int 0), (.int 0)] m12 (fun o m15 => o = .inl none ∧ St m15 ∧ C m12_task [(.ref 668), (.int 1), (.int x14), (.int 0), (.int 0)] m15 (fun o m17 => o = .inl none ∧ St m17 ∧ K (.inl none) m17))))))) ∧ ((mI m 692 (Int32.toNatClampNeg (mI m 668 31))) = 20 → K (.inl none) (mSetI m 668 29 4)))) : V m12_attempt 0 [some (.ref 668), none, none] [] m K := by
  refine r_aload_n (y := m12_attempt) dX12_attempt_0 rfl rfl ?_
  refine g_X12_80 (y := m12_attempt) rfl dX12_attempt_1 hm ?_
  refine r_aload_n (y := m12_attempt) dX12_attempt_4 rfl rfl ?_
  refine g_X12_251 (y := m12_attempt) rfl dX12_attempt_5 hm ?_
  obtain ⟨hb1, h⟩ := h
  refine r_iald (y := m12_attempt) (n := 110) dX12_attempt_8 (sa_692 hm) hb1 ?_
  refine r_bipush (y := m12_attempt) (v := 20) dX12_attempt_9 (by decide) ?_
  refine r_icmp_ne (y := m12_attempt) (tgt := 20) dX12_attempt_11 (by decide) (fun hc2 => ?_) (fun hc2 => ?_)
  · have h := h.1 hc2
    refine r_aload_n (y := m12_attempt) dX12_attempt_20 rfl rfl ?_
    refine g_X12_80 (y := m12_attempt) rfl dX12_attempt_21 hm ?_
    refine r_aload_n (y := m12_attempt) dX12_attempt_24 rfl rfl ?_
    refine g_X12_251 (y := m12_attempt) rfl dX12_attempt_25 hm ?_
    refine r_dup2 (y := m12_attempt) dX12_attempt_28 ?_
    obtain ⟨hb3, h⟩ := h
    refine r_iald (y := m12_attempt) (n := 110) dX12_attempt_29 (sa_692 hm) hb3 ?_
    refine r_iconst (y := m12_attempt) (v := 1) dX12_attempt_30 (by decide) ?_
    refine r_iadd (y := m12_attempt) dX12_attempt_31 ?_
    obtain ⟨hb4, h⟩ := h
    refine r_iast (y := m12_attempt) (n := 110) dX12_attempt_32 (sa_692 hm) hb4 ?_
    refine r_aload_n (y := m12_attempt) dX12_attempt_33 rfl rfl ?_
    refine r_callV (y := m12_attempt) (As := []) (b := 668) (ci := 12) dX12_attempt_34 rfl k12_step lm_X12_254 rfl ⟨by decide, by decide⟩ (so_668 (St.i hm)) (by decide) rfl (Nat.le_of_ble_eq_true rfl) (C.mono h ?_)
    rintro _ m5 ⟨rfl, hm6, h⟩
    refine ⟨none, rfl, ?_⟩
    refine r_aload_n (y := m12_attempt) dX12_attempt_37 rfl rfl ?_
    refine g_X12_245 (y := m12_attempt) rfl dX12_attempt_38 hm6 ?_
    refine r_if_ne (y := m12_attempt) (tgt := 102) dX12_attempt_41 (by decide) (fun hc7 => ?_) (fun hc7 => ?_)
    · have h := h.1 hc7
      exact r_ret (y := m12_attempt) dX12_attempt_102 rfl h
    · have h := h.2 hc7
      refine r_aload_n (y := m12_attempt) dX12_attempt_44 rfl rfl ?_
      refine g_X12_86 (y := m12_attempt) rfl dX12_attempt_45 hm6 ?_
      refine r_aload_n (y := m12_attempt) dX12_attempt_48 rfl rfl ?_
      refine g_X12_251 (y := m12_attempt) rfl dX12_attempt_49 hm6 ?_
      refine r_iconst (y := m12_attempt) (v := 0) dX12_attempt_52 (by decide) ?_
      obtain ⟨hb8, h⟩ := h
      refine r_iast (y := m12_attempt) (n := 110) dX12_attempt_53 (sa_694 hm6) hb8 ?_
      refine r_aload_n (y := m12_attempt) dX12_attempt_54 rfl rfl ?_
      refine g_X12_77 (y := m12_attempt) rfl dX12_attempt_55 (St.i hm6) ?_
      refine r_aload_n (y := m12_attempt) dX12_attempt_58 rfl rfl ?_
      refine g_X12_251 (y := m12_attempt) rfl dX12_attempt_59 (St.i hm6) ?_
      refine V.top (b := (mI m5 668 31)) (by first | rfl | simp [mI_set, mI_setR]) ?_
      obtain ⟨hb9, h⟩ := h
      refine r_iald (y := m12_attempt) (n := 110) dX12_attempt_62 (sa_691 (St.i hm6)) hb9 ?_
      refine V.top (b := (mI m5 691 (Int32.toNatClampNeg (mI m5 668 31)))) (by first | rfl | simp [mI_set, mI_setR]) ?_
      refine r_istore_n (y := m12_attempt) (L' := [some (.ref 668), some (.int (mI m5 691 (Int32.toNatClampNeg (mI m5 668 31)))), none]) dX12_attempt_63 rfl (Nat.le_of_ble_eq_true rfl) rfl ?_
      refine r_aload_n (y := m12_attempt) dX12_attempt_64 rfl rfl ?_
      refine r_aload_n (y := m12_attempt) dX12_attempt_65 rfl rfl ?_
      refine g_X12_38 (y := m12_attempt) rfl dX12_attempt_66 (St.i hm6) ?_
      refine r_iload_n (y := m12_attempt) dX12_attempt_69 rfl rfl ?_
      obtain ⟨hb10, h⟩ := h
      refine r_iald (y := m12_attempt) (n := 6000) dX12_attempt_70 (sa_678 (St.i hm6)) hb10 ?_
      refine V.top (b := (mI m5 678 (Int32.toNatClampNeg (mI m5 691 (Int32.toNatClampNeg (mI m5 668 31)))))) (by first | rfl | simp [mI_set, mI_setR]) ?_
      refine r_aload_n (y := m12_attempt) dX12_attempt_71 rfl rfl ?_
      refine g_X12_50 (y := m12_attempt) rfl dX12_attempt_72 (St.i hm6) ?_
      refine r_iload_n (y := m12_attempt) dX12_attempt_75 rfl rfl ?_
      obtain ⟨hb11, h⟩ := h
      refine r_iald (y := m12_attempt) (n := 6000) dX12_attempt_76 (sa_682 (St.i hm6)) hb11 ?_
      refine V.top (b := (mI m5 682 (Int32.toNatClampNeg (mI m5 691 (Int32.toNatClampNeg (mI m5 668 31)))))) (by first | rfl | simp [mI_set, mI_setR]) ?_
      refine r_aload_n (y := m12_attempt) dX12_attempt_77 rfl rfl ?_
      refine g_X12_251 (y := m12_attempt) rfl dX12_attempt_78 (St.i hm6) ?_
      refine V.top (b := (mI m5 668 31)) (by first | rfl | simp [mI_set, mI_setR]) ?_
      refine r_callV (y := m12_attempt) (As := [(.int (mI m5 678 (Int32.toNatClampNeg (mI m5 691 (Int32.toNatClampNeg (mI m5 668 31)))))), (.int (mI m5 682 (Int32.toNatClampNeg (mI m5 691 (Int32.toNatClampNeg (mI m5 668 31)))))), (.int (mI m5 668 31))]) (b := 668) (ci := 12) dX12_attempt_81 rfl k12_make lm_X12_257 rfl ⟨by decide, by decide⟩ (so_668 (St.i hm6)) (by decide) rfl (Nat.le_of_ble_eq_true rfl) (C.mono h ?_)
      rintro _ m12 ⟨x14, rfl, hm13, h⟩
      refine ⟨_, rfl, ?_⟩
      refine r_istore_n (y := m12_attempt) (L' := [some (.ref 668), some (.int (mI m5 691 (Int32.toNatClampNeg (mI m5 668 31)))), some (.int x14)]) dX12_attempt_84 rfl (Nat.le_of_ble_eq_true rfl) rfl ?_
      refine r_aload_n (y := m12_attempt) dX12_attempt_85 rfl rfl ?_
      refine r_bipush (y := m12_attempt) (v := 9) dX12_attempt_86 (by decide) ?_
      refine r_iload_n (y := m12_attempt) dX12_attempt_88 rfl rfl ?_
      refine r_iconst (y := m12_attempt) (v := 0) dX12_attempt_89 (by decide) ?_
      refine r_iconst (y := m12_attempt) (v := 0) dX12_attempt_90 (by decide) ?_
      refine r_callV (y := m12_attempt) (As := [(.int 9), (.int (mI m5 691 (Int32.toNatClampNeg (mI m5 668 31)))), (.int 0), (.int 0)]) (b := 668) (ci := 12) dX12_attempt_91 rfl k12_task lm_X12_260 rfl ⟨by decide, by decide⟩ (so_668 hm13) (by decide) rfl (Nat.le_of_ble_eq_true rfl) (C.mono h ?_)
      rintro _ m15 ⟨rfl, hm16, h⟩
      refine ⟨none, rfl, ?_⟩
      refine r_aload_n (y := m12_attempt) dX12_attempt_94 rfl rfl ?_
      refine r_iconst (y := m12_attempt) (v := 1) dX12_attempt_95 (by decide) ?_
      refine r_iload_n (y := m12_attempt) dX12_attempt_96 rfl rfl ?_
      refine r_iconst (y := m12_attempt) (v := 0) dX12_attempt_97 (by decide) ?_
      refine r_iconst (y := m12_attempt) (v := 0) dX12_attempt_98 (by decide) ?_
      refine r_callV (y := m12_attempt) (As := [(.int 1), (.int x14), (.int 0), (.int 0)]) (b := 668) (ci := 12) dX12_attempt_99 rfl k12_task lm_X12_260 rfl ⟨by decide, by decide⟩ (so_668 hm16) (by decide) rfl (Nat.le_of_ble_eq_true rfl) (C.mono h ?_)
      rintro _ m17 ⟨rfl, hm18, h⟩
      refine ⟨none, rfl, ?_⟩
      exact r_ret (y := m12_attempt) dX12_attempt_102 rfl h
  · have h := h.2 hc2
    refine r_aload_n (y := m12_attempt) dX12_attempt_14 rfl rfl ?_
    refine r_iconst (y := m12_attempt) (v := 4) dX12_attempt_15 (by decide) ?_
    refine p_X12_245 (y := m12_attempt) rfl dX12_attempt_16 hm ?_
    exact r_ret (y := m12_attempt) dX12_attempt_19 rfl h
set_option maxHeartbeats 4000000 in
set_option maxRecDepth 100000 in
theorem w12_beginSome {m : Mm} {K : Option Value ⊕ String → Mm → Prop} (hm : St m) {a0 : Int32}  (h : vp_in ((mI m 668 31) + 1) 110 ∧ vp_in ((mI m 668 31) + 1) 110 ∧ vp_in ((mI m 668 31) + 1) 110 ∧ vp_in ((mI m 668 31) + 1) 110 ∧ C m12_attempt [(.ref 668)] (mSetI (mSetI (mSetI (mSetI (mSetI m 668 31 ((mI m 668 31) + 1)) 690 (Int32.toNatClampNeg ((mI m 668 31) + 1)) (mI m 668 24)) 691 (Int32.toNatClampNeg ((mI m 668 31) + 1)) a0) 692 (Int32.toNatClampNeg ((mI m 668 31) + 1)) 0) 693 (Int32.toNatClampNeg ((mI m 668 31) + 1)) 0) (fun o m5 => o = .inl none ∧ St m5 ∧ K (.inl none) m5)) : V m12_beginSome 0 [some (.ref 668), some (.int a0)] [] m K := by
  refine r_aload_n (y := m12_beginSome) dX12_beginSome_0 rfl rfl ?_
  refine r_dup_r (y := m12_beginSome) dX12_beginSome_1 ?_
  refine g_X12_251 (y := m12_beginSome) rfl dX12_beginSome_2 hm ?_
  refine r_iconst (y := m12_beginSome) (v := 1) dX12_beginSome_5 (by decide) ?_
  refine r_iadd (y := m12_beginSome) dX12_beginSome_6 ?_
  refine p_X12_251 (y := m12_beginSome) rfl dX12_beginSome_7 hm ?_
  refine r_aload_n (y := m12_beginSome) dX12_beginSome_10 rfl rfl ?_
  refine g_X12_74 (y := m12_beginSome) rfl dX12_beginSome_11 (St.i hm) ?_
  refine r_aload_n (y := m12_beginSome) dX12_beginSome_14 rfl rfl ?_
  refine g_X12_251 (y := m12_beginSome) rfl dX12_beginSome_15 (St.i hm) ?_
  refine V.top (b := ((mI m 668 31) + 1)) (by first | rfl | simp [mI_set, mI_setR]) ?_
  refine r_aload_n (y := m12_beginSome) dX12_beginSome_18 rfl rfl ?_
  refine g_X12_239 (y := m12_beginSome) rfl dX12_beginSome_19 (St.i hm) ?_
  refine V.top (b := (mI m 668 24)) (by first | rfl | simp [mI_set, mI_setR]) ?_
  obtain ⟨hb1, h⟩ := h
  refine r_iast (y := m12_beginSome) (n := 110) dX12_beginSome_22 (sa_690 (St.i hm)) hb1 ?_
  refine r_aload_n (y := m12_beginSome) dX12_beginSome_23 rfl rfl ?_
  refine g_X12_77 (y := m12_beginSome) rfl dX12_beginSome_24 (St.i (St.i hm)) ?_
  refine r_aload_n (y := m12_beginSome) dX12_beginSome_27 rfl rfl ?_
  refine g_X12_251 (y := m12_beginSome) rfl dX12_beginSome_28 (St.i (St.i hm)) ?_
  refine V.top (b := ((mI m 668 31) + 1)) (by first | rfl | simp [mI_set, mI_setR]) ?_
  refine r_iload_n (y := m12_beginSome) dX12_beginSome_31 rfl rfl ?_
  obtain ⟨hb2, h⟩ := h
  refine r_iast (y := m12_beginSome) (n := 110) dX12_beginSome_32 (sa_691 (St.i (St.i hm))) hb2 ?_
  refine r_aload_n (y := m12_beginSome) dX12_beginSome_33 rfl rfl ?_
  refine g_X12_80 (y := m12_beginSome) rfl dX12_beginSome_34 (St.i (St.i (St.i hm))) ?_
  refine r_aload_n (y := m12_beginSome) dX12_beginSome_37 rfl rfl ?_
  refine g_X12_251 (y := m12_beginSome) rfl dX12_beginSome_38 (St.i (St.i (St.i hm))) ?_
  refine V.top (b := ((mI m 668 31) + 1)) (by first | rfl | simp [mI_set, mI_setR]) ?_
  refine r_iconst (y := m12_beginSome) (v := 0) dX12_beginSome_41 (by decide) ?_
  obtain ⟨hb3, h⟩ := h
  refine r_iast (y := m12_beginSome) (n := 110) dX12_beginSome_42 (sa_692 (St.i (St.i (St.i hm)))) hb3 ?_
  refine r_aload_n (y := m12_beginSome) dX12_beginSome_43 rfl rfl ?_
  refine g_X12_83 (y := m12_beginSome) rfl dX12_beginSome_44 (St.i (St.i (St.i (St.i hm)))) ?_
  refine r_aload_n (y := m12_beginSome) dX12_beginSome_47 rfl rfl ?_
  refine g_X12_251 (y := m12_beginSome) rfl dX12_beginSome_48 (St.i (St.i (St.i (St.i hm)))) ?_
  refine V.top (b := ((mI m 668 31) + 1)) (by first | rfl | simp [mI_set, mI_setR]) ?_
  refine r_iconst (y := m12_beginSome) (v := 0) dX12_beginSome_51 (by decide) ?_
  obtain ⟨hb4, h⟩ := h
  refine r_iast (y := m12_beginSome) (n := 110) dX12_beginSome_52 (sa_693 (St.i (St.i (St.i (St.i hm))))) hb4 ?_
  refine r_aload_n (y := m12_beginSome) dX12_beginSome_53 rfl rfl ?_
  refine r_callV (y := m12_beginSome) (As := []) (b := 668) (ci := 12) dX12_beginSome_54 rfl k12_attempt lm_X12_264 rfl ⟨by decide, by decide⟩ (so_668 (St.i (St.i (St.i (St.i (St.i hm)))))) (by decide) rfl (Nat.le_of_ble_eq_true rfl) (C.mono h ?_)
  rintro _ m5 ⟨rfl, hm6, h⟩
  refine ⟨none, rfl, ?_⟩
  exact r_ret (y := m12_beginSome) dX12_beginSome_57 rfl h
set_option maxHeartbeats 4000000 in
set_option maxRecDepth 100000 in
theorem w12_fail {m : Mm} {K : Option Value ⊕ String → Mm → Prop} (hm : St m) {a0 : Int32}  (h : ((¬ a0 = 0 → vp_in a0 110 ∧ vp_in a0 110 ∧ V m12_fail 34 [some (.ref 668), some (.int a0), some (.int ((mI m 694 (Int32.toNatClampNeg a0)) - 1))] [] (mSetI (mSetI m 668 31 a0) 668 24 (mI m 690 (Int32.toNatClampNeg a0))) K) ∧ (a0 = 0 → K (.inl none) (mSetI m 668 29 2)))) : V m12_fail 0 [some (.ref 668), some (.int a0), none] [] m K := by
  refine r_iload_n (y := m12_fail) dX12_fail_0 rfl rfl ?_
  refine r_if_ne (y := m12_fail) (tgt := 10) dX12_fail_1 (by decide) (fun hc1 => ?_) (fun hc1 => ?_)
  · have h := h.1 hc1
    refine r_aload_n (y := m12_fail) dX12_fail_10 rfl rfl ?_
    refine r_iload_n (y := m12_fail) dX12_fail_11 rfl rfl ?_
    refine p_X12_251 (y := m12_fail) rfl dX12_fail_12 hm ?_
    refine r_aload_n (y := m12_fail) dX12_fail_15 rfl rfl ?_
    refine r_aload_n (y := m12_fail) dX12_fail_16 rfl rfl ?_
    refine g_X12_74 (y := m12_fail) rfl dX12_fail_17 (St.i hm) ?_
    refine r_iload_n (y := m12_fail) dX12_fail_20 rfl rfl ?_
    obtain ⟨hb2, h⟩ := h
    refine r_iald (y := m12_fail) (n := 110) dX12_fail_21 (sa_690 (St.i hm)) hb2 ?_
    refine V.top (b := (mI m 690 (Int32.toNatClampNeg a0))) (by first | rfl | simp [mI_set, mI_setR]) ?_
    refine p_X12_239 (y := m12_fail) rfl dX12_fail_22 (St.i hm) ?_
    refine r_aload_n (y := m12_fail) dX12_fail_25 rfl rfl ?_
    refine g_X12_86 (y := m12_fail) rfl dX12_fail_26 (St.i (St.i hm)) ?_
    refine r_iload_n (y := m12_fail) dX12_fail_29 rfl rfl ?_
    obtain ⟨hb3, h⟩ := h
    refine r_iald (y := m12_fail) (n := 110) dX12_fail_30 (sa_694 (St.i (St.i hm))) hb3 ?_
    refine V.top (b := (mI m 694 (Int32.toNatClampNeg a0))) (by first | rfl | simp [mI_set, mI_setR]) ?_
    refine r_iconst (y := m12_fail) (v := 1) dX12_fail_31 (by decide) ?_
    refine r_isub (y := m12_fail) dX12_fail_32 ?_
    refine r_istore_n (y := m12_fail) (L' := [some (.ref 668), some (.int a0), some (.int ((mI m 694 (Int32.toNatClampNeg a0)) - 1))]) dX12_fail_33 rfl (Nat.le_of_ble_eq_true rfl) rfl ?_
    exact h
  · have h := h.2 hc1
    refine r_aload_n (y := m12_fail) dX12_fail_4 rfl rfl ?_
    refine r_iconst (y := m12_fail) (v := 2) dX12_fail_5 (by decide) ?_
    refine p_X12_245 (y := m12_fail) rfl dX12_fail_6 hm ?_
    exact r_ret (y := m12_fail) dX12_fail_9 rfl h
set_option maxHeartbeats 4000000 in
set_option maxRecDepth 100000 in
theorem w12_fail_34 {m : Mm} {K : Option Value ⊕ String → Mm → Prop} (hm : St m) {v1 : Int32} {v2 : Int32}  (h : ((v2 < 0 → ((v2 < 0 → vp_in v1 110 ∧ C m12_becomeData [(.ref 668), (.int (mI m 691 (Int32.toNatClampNeg v1))), (.int 0)] m (fun o m4 => o = .inl none ∧ St m4 ∧ K (.inl none) (mSetI m4 668 31 ((mI m4 668 31) - 1)))) ∧ (¬ v2 < 0 → vp_in ((41 * v1) + v2) 4510 ∧ vp_in ((41 * v1) + v2) 4510 ∧ vp_in v1 110 ∧ C m12_attempt [(.ref 668)] (mSetI (mSetI m 695 (Int32.toNatClampNeg ((41 * v1) + v2)) ((mI m 695 (Int32.toNatClampNeg ((41 * v1) + v2))) + 1)) 693 (Int32.toNatClampNeg v1) (v2 + 1)) (fun o m9 => o = .inl none ∧ St m9 ∧ K (.inl none) m9)))) ∧ (¬ v2 < 0 → vp_in ((41 * v1) + v2) 4510 ∧ vp_in ((41 * v1) + v2) 4510 ∧ ((¬ ((mI m 695 (Int32.toNatClampNeg ((41 * v1) + v2))) + 1) = (mI m 696 (Int32.toNatClampNeg ((41 * v1) + v2))) → ((v2 < 0 → vp_in v1 110 ∧ C m12_becomeData [(.ref 668), (.int (mI m 691 (Int32.toNatClampNeg v1))), (.int 0)] m (fun o m16 => o = .inl none ∧ St m16 ∧ K (.inl none) (mSetI m16 668 31 ((mI m16 668 31) - 1)))) ∧ (¬ v2 < 0 → vp_in ((41 * v1) + v2) 4510 ∧ vp_in ((41 * v1) + v2) 4510 ∧ vp_in v1 110 ∧ C m12_attempt [(.ref 668)] (mSetI (mSetI m 695 (Int32.toNatClampNeg ((41 * v1) + v2)) ((mI m 695 (Int32.toNatClampNeg ((41 * v1) + v2))) + 1)) 693 (Int32.toNatClampNeg v1) (v2 + 1)) (fun o m21 => o = .inl none ∧ St m21 ∧ K (.inl none) m21)))) ∧ (((mI m 695 (Int32.toNatClampNeg ((41 * v1) + v2))) + 1) = (mI m 696 (Int32.toNatClampNeg ((41 * v1) + v2))) → V m12_fail 34 [some (.ref 668), some (.int v1), some (.int (v2 + (-1)))] [] m K))))) : V m12_fail 34 [some (.ref 668), some (.int v1), some (.int v2)] [] m K := by
  refine r_iload_n (y := m12_fail) dX12_fail_34 rfl rfl ?_
  refine r_if_lt (y := m12_fail) (tgt := 71) dX12_fail_35 (by decide) (fun hc1 => ?_) (fun hc1 => ?_)
  · have h := h.1 hc1
    refine r_iload_n (y := m12_fail) dX12_fail_71 rfl rfl ?_
    refine r_if_lt (y := m12_fail) (tgt := 106) dX12_fail_72 (by decide) (fun hc2 => ?_) (fun hc2 => ?_)
    · have h := h.1 hc2
      refine r_aload_n (y := m12_fail) dX12_fail_106 rfl rfl ?_
      refine r_aload_n (y := m12_fail) dX12_fail_107 rfl rfl ?_
      refine g_X12_77 (y := m12_fail) rfl dX12_fail_108 hm ?_
      refine r_iload_n (y := m12_fail) dX12_fail_111 rfl rfl ?_
      obtain ⟨hb3, h⟩ := h
      refine r_iald (y := m12_fail) (n := 110) dX12_fail_112 (sa_691 hm) hb3 ?_
      refine r_iconst (y := m12_fail) (v := 0) dX12_fail_113 (by decide) ?_
      refine r_callV (y := m12_fail) (As := [(.int (mI m 691 (Int32.toNatClampNeg v1))), (.int 0)]) (b := 668) (ci := 12) dX12_fail_114 rfl k12_becomeData lm_X12_267 rfl ⟨by decide, by decide⟩ (so_668 hm) (by decide) rfl (Nat.le_of_ble_eq_true rfl) (C.mono h ?_)
      rintro _ m4 ⟨rfl, hm5, h⟩
      refine ⟨none, rfl, ?_⟩
      refine r_aload_n (y := m12_fail) dX12_fail_117 rfl rfl ?_
      refine r_dup_r (y := m12_fail) dX12_fail_118 ?_
      refine g_X12_251 (y := m12_fail) rfl dX12_fail_119 hm5 ?_
      refine r_iconst (y := m12_fail) (v := 1) dX12_fail_122 (by decide) ?_
      refine r_isub (y := m12_fail) dX12_fail_123 ?_
      refine p_X12_251 (y := m12_fail) rfl dX12_fail_124 hm5 ?_
      exact r_ret (y := m12_fail) dX12_fail_127 rfl h
    · have h := h.2 hc2
      refine r_aload_n (y := m12_fail) dX12_fail_75 rfl rfl ?_
      refine g_X12_89 (y := m12_fail) rfl dX12_fail_76 hm ?_
      refine r_bipush (y := m12_fail) (v := 41) dX12_fail_79 (by decide) ?_
      refine r_iload_n (y := m12_fail) dX12_fail_81 rfl rfl ?_
      refine r_imul (y := m12_fail) dX12_fail_82 ?_
      refine r_iload_n (y := m12_fail) dX12_fail_83 rfl rfl ?_
      refine r_iadd (y := m12_fail) dX12_fail_84 ?_
      refine r_dup2 (y := m12_fail) dX12_fail_85 ?_
      obtain ⟨hb6, h⟩ := h
      refine r_iald (y := m12_fail) (n := 4510) dX12_fail_86 (sa_695 hm) hb6 ?_
      refine r_iconst (y := m12_fail) (v := 1) dX12_fail_87 (by decide) ?_
      refine r_iadd (y := m12_fail) dX12_fail_88 ?_
      obtain ⟨hb7, h⟩ := h
      refine r_iast (y := m12_fail) (n := 4510) dX12_fail_89 (sa_695 hm) hb7 ?_
      refine r_aload_n (y := m12_fail) dX12_fail_90 rfl rfl ?_
      refine g_X12_83 (y := m12_fail) rfl dX12_fail_91 (St.i hm) ?_
      refine r_iload_n (y := m12_fail) dX12_fail_94 rfl rfl ?_
      refine r_iload_n (y := m12_fail) dX12_fail_95 rfl rfl ?_
      refine r_iconst (y := m12_fail) (v := 1) dX12_fail_96 (by decide) ?_
      refine r_iadd (y := m12_fail) dX12_fail_97 ?_
      obtain ⟨hb8, h⟩ := h
      refine r_iast (y := m12_fail) (n := 110) dX12_fail_98 (sa_693 (St.i hm)) hb8 ?_
      refine r_aload_n (y := m12_fail) dX12_fail_99 rfl rfl ?_
      refine r_callV (y := m12_fail) (As := []) (b := 668) (ci := 12) dX12_fail_100 rfl k12_attempt lm_X12_264 rfl ⟨by decide, by decide⟩ (so_668 (St.i (St.i hm))) (by decide) rfl (Nat.le_of_ble_eq_true rfl) (C.mono h ?_)
      rintro _ m9 ⟨rfl, hm10, h⟩
      refine ⟨none, rfl, ?_⟩
      refine r_goto (y := m12_fail) (tgt := 127) dX12_fail_103 (by decide) ?_
      exact r_ret (y := m12_fail) dX12_fail_127 rfl h
  · have h := h.2 hc1
    refine r_aload_n (y := m12_fail) dX12_fail_38 rfl rfl ?_
    refine g_X12_89 (y := m12_fail) rfl dX12_fail_39 hm ?_
    refine r_bipush (y := m12_fail) (v := 41) dX12_fail_42 (by decide) ?_
    refine r_iload_n (y := m12_fail) dX12_fail_44 rfl rfl ?_
    refine r_imul (y := m12_fail) dX12_fail_45 ?_
    refine r_iload_n (y := m12_fail) dX12_fail_46 rfl rfl ?_
    refine r_iadd (y := m12_fail) dX12_fail_47 ?_
    obtain ⟨hb11, h⟩ := h
    refine r_iald (y := m12_fail) (n := 4510) dX12_fail_48 (sa_695 hm) hb11 ?_
    refine r_iconst (y := m12_fail) (v := 1) dX12_fail_49 (by decide) ?_
    refine r_iadd (y := m12_fail) dX12_fail_50 ?_
    refine r_aload_n (y := m12_fail) dX12_fail_51 rfl rfl ?_
    refine g_X12_92 (y := m12_fail) rfl dX12_fail_52 hm ?_
    refine r_bipush (y := m12_fail) (v := 41) dX12_fail_55 (by decide) ?_
    refine r_iload_n (y := m12_fail) dX12_fail_57 rfl rfl ?_
    refine r_imul (y := m12_fail) dX12_fail_58 ?_
    refine r_iload_n (y := m12_fail) dX12_fail_59 rfl rfl ?_
    refine r_iadd (y := m12_fail) dX12_fail_60 ?_
    obtain ⟨hb12, h⟩ := h
    refine r_iald (y := m12_fail) (n := 4510) dX12_fail_61 (sa_696 hm) hb12 ?_
    refine r_icmp_ne (y := m12_fail) (tgt := 71) dX12_fail_62 (by decide) (fun hc13 => ?_) (fun hc13 => ?_)
    · have h := h.1 hc13
      refine r_iload_n (y := m12_fail) dX12_fail_71 rfl rfl ?_
      refine r_if_lt (y := m12_fail) (tgt := 106) dX12_fail_72 (by decide) (fun hc14 => ?_) (fun hc14 => ?_)
      · have h := h.1 hc14
        refine r_aload_n (y := m12_fail) dX12_fail_106 rfl rfl ?_
        refine r_aload_n (y := m12_fail) dX12_fail_107 rfl rfl ?_
        refine g_X12_77 (y := m12_fail) rfl dX12_fail_108 hm ?_
        refine r_iload_n (y := m12_fail) dX12_fail_111 rfl rfl ?_
        obtain ⟨hb15, h⟩ := h
        refine r_iald (y := m12_fail) (n := 110) dX12_fail_112 (sa_691 hm) hb15 ?_
        refine r_iconst (y := m12_fail) (v := 0) dX12_fail_113 (by decide) ?_
        refine r_callV (y := m12_fail) (As := [(.int (mI m 691 (Int32.toNatClampNeg v1))), (.int 0)]) (b := 668) (ci := 12) dX12_fail_114 rfl k12_becomeData lm_X12_267 rfl ⟨by decide, by decide⟩ (so_668 hm) (by decide) rfl (Nat.le_of_ble_eq_true rfl) (C.mono h ?_)
        rintro _ m16 ⟨rfl, hm17, h⟩
        refine ⟨none, rfl, ?_⟩
        refine r_aload_n (y := m12_fail) dX12_fail_117 rfl rfl ?_
        refine r_dup_r (y := m12_fail) dX12_fail_118 ?_
        refine g_X12_251 (y := m12_fail) rfl dX12_fail_119 hm17 ?_
        refine r_iconst (y := m12_fail) (v := 1) dX12_fail_122 (by decide) ?_
        refine r_isub (y := m12_fail) dX12_fail_123 ?_
        refine p_X12_251 (y := m12_fail) rfl dX12_fail_124 hm17 ?_
        exact r_ret (y := m12_fail) dX12_fail_127 rfl h
      · have h := h.2 hc14
        refine r_aload_n (y := m12_fail) dX12_fail_75 rfl rfl ?_
        refine g_X12_89 (y := m12_fail) rfl dX12_fail_76 hm ?_
        refine r_bipush (y := m12_fail) (v := 41) dX12_fail_79 (by decide) ?_
        refine r_iload_n (y := m12_fail) dX12_fail_81 rfl rfl ?_
        refine r_imul (y := m12_fail) dX12_fail_82 ?_
        refine r_iload_n (y := m12_fail) dX12_fail_83 rfl rfl ?_
        refine r_iadd (y := m12_fail) dX12_fail_84 ?_
        refine r_dup2 (y := m12_fail) dX12_fail_85 ?_
        obtain ⟨hb18, h⟩ := h
        refine r_iald (y := m12_fail) (n := 4510) dX12_fail_86 (sa_695 hm) hb18 ?_
        refine r_iconst (y := m12_fail) (v := 1) dX12_fail_87 (by decide) ?_
        refine r_iadd (y := m12_fail) dX12_fail_88 ?_
        obtain ⟨hb19, h⟩ := h
        refine r_iast (y := m12_fail) (n := 4510) dX12_fail_89 (sa_695 hm) hb19 ?_
        refine r_aload_n (y := m12_fail) dX12_fail_90 rfl rfl ?_
        refine g_X12_83 (y := m12_fail) rfl dX12_fail_91 (St.i hm) ?_
        refine r_iload_n (y := m12_fail) dX12_fail_94 rfl rfl ?_
        refine r_iload_n (y := m12_fail) dX12_fail_95 rfl rfl ?_
        refine r_iconst (y := m12_fail) (v := 1) dX12_fail_96 (by decide) ?_
        refine r_iadd (y := m12_fail) dX12_fail_97 ?_
        obtain ⟨hb20, h⟩ := h
        refine r_iast (y := m12_fail) (n := 110) dX12_fail_98 (sa_693 (St.i hm)) hb20 ?_
        refine r_aload_n (y := m12_fail) dX12_fail_99 rfl rfl ?_
        refine r_callV (y := m12_fail) (As := []) (b := 668) (ci := 12) dX12_fail_100 rfl k12_attempt lm_X12_264 rfl ⟨by decide, by decide⟩ (so_668 (St.i (St.i hm))) (by decide) rfl (Nat.le_of_ble_eq_true rfl) (C.mono h ?_)
        rintro _ m21 ⟨rfl, hm22, h⟩
        refine ⟨none, rfl, ?_⟩
        refine r_goto (y := m12_fail) (tgt := 127) dX12_fail_103 (by decide) ?_
        exact r_ret (y := m12_fail) dX12_fail_127 rfl h
    · have h := h.2 hc13
      refine r_iinc (y := m12_fail) (v := (v2 + (-1))) (L' := [some (.ref 668), some (.int v1), some (.int (v2 + (-1)))]) dX12_fail_65 rfl (by rfl) rfl ?_
      refine r_goto (y := m12_fail) (tgt := 34) dX12_fail_68 (by decide) ?_
      exact h
set_option maxHeartbeats 4000000 in
set_option maxRecDepth 100000 in
theorem w12_call_ {m : Mm} {K : Option Value ⊕ String → Mm → Prop} (hm : St m) {a0 : Int32}  (h : vp_in a0 6000 ∧ vp_in a0 6000 ∧ vp_in (mI m 678 (Int32.toNatClampNeg a0)) 8 ∧ ((¬ (mI m 673 (Int32.toNatClampNeg (mI m 678 (Int32.toNatClampNeg a0)))) = 0 → (((mI m 673 (Int32.toNatClampNeg (mI m 678 (Int32.toNatClampNeg a0)))) ≤ 1 → ((¬ (mI m 668 29) = 0 → V m12_call_ 63 [some (.ref 668), some (.int a0), some (.int (mI m 678 (Int32.toNatClampNeg a0))), some (.int (mI m 681 (Int32.toNatClampNeg a0))), some (.int (mI m 673 (Int32.toNatClampNeg (mI m 678 (Int32.toNatClampNeg a0))))), some (.int 0), none] [] m K) ∧ ((mI m 668 29) = 0 → C m12_step [(.ref 668)] m (fun o m7 => o = .inl none ∧ St m7 ∧ V m12_call_ 63 [some (.ref 668), some (.int a0), some (.int (mI m 678 (Int32.toNatClampNeg a0))), some (.int (mI m 681 (Int32.toNatClampNeg a0))), some (.int (mI m 673 (Int32.toNatClampNeg (mI m 678 (Int32.toNatClampNeg a0))))), some (.int 0), none] [] m7 K)))) ∧ (¬ (mI m 673 (Int32.toNatClampNeg (mI m 678 (Int32.toNatClampNeg a0)))) ≤ 1 → C m12_decide [(.ref 668), (.int (mI m 681 (Int32.toNatClampNeg a0))), (.int (mI m 673 (Int32.toNatClampNeg (mI m 678 (Int32.toNatClampNeg a0)))))] m (fun o m9 => ∃ x11 : Int32, o = .inl (some (.int x11)) ∧ St m9 ∧ ((¬ (mI m9 668 29) = 0 → V m12_call_ 63 [some (.ref 668), some (.int a0), some (.int (mI m 678 (Int32.toNatClampNeg a0))), some (.int (mI m 681 (Int32.toNatClampNeg a0))), some (.int (mI m 673 (Int32.toNatClampNeg (mI m 678 (Int32.toNatClampNeg a0))))), some (.int x11), none] [] m9 K) ∧ ((mI m9 668 29) = 0 → C m12_step [(.ref 668)] m9 (fun o m13 => o = .inl none ∧ St m13 ∧ V m12_call_ 63 [some (.ref 668), some (.int a0), some (.int (mI m 678 (Int32.toNatClampNeg a0))), some (.int (mI m 681 (Int32.toNatClampNeg a0))), some (.int (mI m 673 (Int32.toNatClampNeg (mI m 678 (Int32.toNatClampNeg a0))))), some (.int x11), none] [] m13 K))))))) ∧ ((mI m 673 (Int32.toNatClampNeg (mI m 678 (Int32.toNatClampNeg a0)))) = 0 → C m12_fail [(.ref 668), (.int (mI m 681 (Int32.toNatClampNeg a0)))] m (fun o m15 => o = .inl none ∧ St m15 ∧ K (.inl none) m15)))) : V m12_call_ 0 [some (.ref 668), some (.int a0), none, none, none, none, none] [] m K := by
  refine r_aload_n (y := m12_call_) dX12_call__0 rfl rfl ?_
  refine g_X12_38 (y := m12_call_) rfl dX12_call__1 hm ?_
  refine r_iload_n (y := m12_call_) dX12_call__4 rfl rfl ?_
  obtain ⟨hb1, h⟩ := h
  refine r_iald (y := m12_call_) (n := 6000) dX12_call__5 (sa_678 hm) hb1 ?_
  refine r_istore_n (y := m12_call_) (L' := [some (.ref 668), some (.int a0), some (.int (mI m 678 (Int32.toNatClampNeg a0))), none, none, none, none]) dX12_call__6 rfl (Nat.le_of_ble_eq_true rfl) rfl ?_
  refine r_aload_n (y := m12_call_) dX12_call__7 rfl rfl ?_
  refine g_X12_47 (y := m12_call_) rfl dX12_call__8 hm ?_
  refine r_iload_n (y := m12_call_) dX12_call__11 rfl rfl ?_
  obtain ⟨hb2, h⟩ := h
  refine r_iald (y := m12_call_) (n := 6000) dX12_call__12 (sa_681 hm) hb2 ?_
  refine r_istore_n (y := m12_call_) (L' := [some (.ref 668), some (.int a0), some (.int (mI m 678 (Int32.toNatClampNeg a0))), some (.int (mI m 681 (Int32.toNatClampNeg a0))), none, none, none]) dX12_call__13 rfl (Nat.le_of_ble_eq_true rfl) rfl ?_
  refine r_aload_n (y := m12_call_) dX12_call__14 rfl rfl ?_
  refine g_X12_23 (y := m12_call_) rfl dX12_call__15 hm ?_
  refine r_iload_n (y := m12_call_) dX12_call__18 rfl rfl ?_
  obtain ⟨hb3, h⟩ := h
  refine r_iald (y := m12_call_) (n := 8) dX12_call__19 (sa_673 hm) hb3 ?_
  refine r_istore (y := m12_call_) (L' := [some (.ref 668), some (.int a0), some (.int (mI m 678 (Int32.toNatClampNeg a0))), some (.int (mI m 681 (Int32.toNatClampNeg a0))), some (.int (mI m 673 (Int32.toNatClampNeg (mI m 678 (Int32.toNatClampNeg a0))))), none, none]) dX12_call__20 (Nat.le_of_ble_eq_true rfl) rfl ?_
  refine r_iload (y := m12_call_) dX12_call__22 rfl ?_
  refine r_if_ne (y := m12_call_) (tgt := 33) dX12_call__24 (by decide) (fun hc4 => ?_) (fun hc4 => ?_)
  · have h := h.1 hc4
    refine r_iload (y := m12_call_) dX12_call__33 rfl ?_
    refine r_iconst (y := m12_call_) (v := 1) dX12_call__35 (by decide) ?_
    refine r_icmp_le (y := m12_call_) (tgt := 49) dX12_call__36 (by decide) (fun hc5 => ?_) (fun hc5 => ?_)
    · have h := h.1 hc5
      refine r_iconst (y := m12_call_) (v := 0) dX12_call__49 (by decide) ?_
      refine r_istore (y := m12_call_) (L' := [some (.ref 668), some (.int a0), some (.int (mI m 678 (Int32.toNatClampNeg a0))), some (.int (mI m 681 (Int32.toNatClampNeg a0))), some (.int (mI m 673 (Int32.toNatClampNeg (mI m 678 (Int32.toNatClampNeg a0))))), some (.int 0), none]) dX12_call__50 (Nat.le_of_ble_eq_true rfl) rfl ?_
      refine r_aload_n (y := m12_call_) dX12_call__52 rfl rfl ?_
      refine g_X12_245 (y := m12_call_) rfl dX12_call__53 hm ?_
      refine r_if_ne (y := m12_call_) (tgt := 63) dX12_call__56 (by decide) (fun hc6 => ?_) (fun hc6 => ?_)
      · have h := h.1 hc6
        exact h
      · have h := h.2 hc6
        refine r_aload_n (y := m12_call_) dX12_call__59 rfl rfl ?_
        refine r_callV (y := m12_call_) (As := []) (b := 668) (ci := 12) dX12_call__60 rfl k12_step lm_X12_254 rfl ⟨by decide, by decide⟩ (so_668 hm) (by decide) rfl (Nat.le_of_ble_eq_true rfl) (C.mono h ?_)
        rintro _ m7 ⟨rfl, hm8, h⟩
        refine ⟨none, rfl, ?_⟩
        exact h
    · have h := h.2 hc5
      refine r_aload_n (y := m12_call_) dX12_call__39 rfl rfl ?_
      refine r_iload_n (y := m12_call_) dX12_call__40 rfl rfl ?_
      refine r_iload (y := m12_call_) dX12_call__41 rfl ?_
      refine r_callV (y := m12_call_) (As := [(.int (mI m 681 (Int32.toNatClampNeg a0))), (.int (mI m 673 (Int32.toNatClampNeg (mI m 678 (Int32.toNatClampNeg a0)))))]) (b := 668) (ci := 12) dX12_call__43 rfl k12_decide lm_X12_273 rfl ⟨by decide, by decide⟩ (so_668 hm) (by decide) rfl (Nat.le_of_ble_eq_true rfl) (C.mono h ?_)
      rintro _ m9 ⟨x11, rfl, hm10, h⟩
      refine ⟨_, rfl, ?_⟩
      refine r_goto (y := m12_call_) (tgt := 50) dX12_call__46 (by decide) ?_
      refine r_istore (y := m12_call_) (L' := [some (.ref 668), some (.int a0), some (.int (mI m 678 (Int32.toNatClampNeg a0))), some (.int (mI m 681 (Int32.toNatClampNeg a0))), some (.int (mI m 673 (Int32.toNatClampNeg (mI m 678 (Int32.toNatClampNeg a0))))), some (.int x11), none]) dX12_call__50 (Nat.le_of_ble_eq_true rfl) rfl ?_
      refine r_aload_n (y := m12_call_) dX12_call__52 rfl rfl ?_
      refine g_X12_245 (y := m12_call_) rfl dX12_call__53 hm10 ?_
      refine r_if_ne (y := m12_call_) (tgt := 63) dX12_call__56 (by decide) (fun hc12 => ?_) (fun hc12 => ?_)
      · have h := h.1 hc12
        exact h
      · have h := h.2 hc12
        refine r_aload_n (y := m12_call_) dX12_call__59 rfl rfl ?_
        refine r_callV (y := m12_call_) (As := []) (b := 668) (ci := 12) dX12_call__60 rfl k12_step lm_X12_254 rfl ⟨by decide, by decide⟩ (so_668 hm10) (by decide) rfl (Nat.le_of_ble_eq_true rfl) (C.mono h ?_)
        rintro _ m13 ⟨rfl, hm14, h⟩
        refine ⟨none, rfl, ?_⟩
        exact h
  · have h := h.2 hc4
    refine r_aload_n (y := m12_call_) dX12_call__27 rfl rfl ?_
    refine r_iload_n (y := m12_call_) dX12_call__28 rfl rfl ?_
    refine r_callV (y := m12_call_) (As := [(.int (mI m 681 (Int32.toNatClampNeg a0)))]) (b := 668) (ci := 12) dX12_call__29 rfl k12_fail lm_X12_270 rfl ⟨by decide, by decide⟩ (so_668 hm) (by decide) rfl (Nat.le_of_ble_eq_true rfl) (C.mono h ?_)
    rintro _ m15 ⟨rfl, hm16, h⟩
    refine ⟨none, rfl, ?_⟩
    exact r_ret (y := m12_call_) dX12_call__32 rfl h
set_option maxHeartbeats 4000000 in
set_option maxRecDepth 100000 in
theorem w12_call__63 {m : Mm} {K : Option Value ⊕ String → Mm → Prop} (hm : St m) {v1 : Int32} {v2 : Int32} {v3 : Int32} {v4 : Int32} {v5 : Int32}  (h : (((mI m 668 29) = 0 → vp_in ((24 * v2) + v5) 192 ∧ C m12_newNames [(.ref 668)] m (fun o m3 => ∃ x5 : Int32, o = .inl (some (.int x5)) ∧ St m3 ∧ vp_in v1 6000 ∧ vp_in v1 6000 ∧ C m12_task [(.ref 668), (.int 6), (.int v1), (.int 0), (.int 0)] (mSetI (mSetI m3 682 (Int32.toNatClampNeg v1) x5) 683 (Int32.toNatClampNeg v1) (mI m 674 (Int32.toNatClampNeg ((24 * v2) + v5)))) (fun o m8 => o = .inl none ∧ St m8 ∧ vp_in v2 8 ∧ (((mI m8 669 (Int32.toNatClampNeg v2)) ≤ 1 → V m12_call_ 140 [some (.ref 668), some (.int v1), some (.int v2), some (.int v3), some (.int v4), some (.int v5), some (.int (mI m 674 (Int32.toNatClampNeg ((24 * v2) + v5))))] [] m8 K) ∧ (¬ (mI m8 669 (Int32.toNatClampNeg v2)) ≤ 1 → C m12_patternAt [(.int (mI m 674 (Int32.toNatClampNeg ((24 * v2) + v5)))), (.int 1)] m8 (fun o m12 => ∃ x14 : Int32, o = .inl (some (.int x14)) ∧ St m12 ∧ vp_in v1 6000 ∧ C m12_task [(.ref 668), (.int 4), (.int x14), (.int (mI m12 680 (Int32.toNatClampNeg v1))), (.int v1)] m12 (fun o m16 => o = .inl none ∧ St m16 ∧ V m12_call_ 140 [some (.ref 668), some (.int v1), some (.int v2), some (.int v3), some (.int v4), some (.int v5), some (.int (mI m 674 (Int32.toNatClampNeg ((24 * v2) + v5))))] [] m16 K))))))) ∧ (¬ (mI m 668 29) = 0 → K (.inl none) m))) : V m12_call_ 63 [some (.ref 668), some (.int v1), some (.int v2), some (.int v3), some (.int v4), some (.int v5), none] [] m K := by
  refine r_aload_n (y := m12_call_) dX12_call__63 rfl rfl ?_
  refine g_X12_245 (y := m12_call_) rfl dX12_call__64 hm ?_
  refine r_if_eq (y := m12_call_) (tgt := 71) dX12_call__67 (by decide) (fun hc1 => ?_) (fun hc1 => ?_)
  · have h := h.1 hc1
    refine r_aload_n (y := m12_call_) dX12_call__71 rfl rfl ?_
    refine g_X12_26 (y := m12_call_) rfl dX12_call__72 hm ?_
    refine r_bipush (y := m12_call_) (v := 24) dX12_call__75 (by decide) ?_
    refine r_iload_n (y := m12_call_) dX12_call__77 rfl rfl ?_
    refine r_imul (y := m12_call_) dX12_call__78 ?_
    refine r_iload (y := m12_call_) dX12_call__79 rfl ?_
    refine r_iadd (y := m12_call_) dX12_call__81 ?_
    obtain ⟨hb2, h⟩ := h
    refine r_iald (y := m12_call_) (n := 192) dX12_call__82 (sa_674 hm) hb2 ?_
    refine r_istore (y := m12_call_) (L' := [some (.ref 668), some (.int v1), some (.int v2), some (.int v3), some (.int v4), some (.int v5), some (.int (mI m 674 (Int32.toNatClampNeg ((24 * v2) + v5))))]) dX12_call__83 (Nat.le_of_ble_eq_true rfl) rfl ?_
    refine r_aload_n (y := m12_call_) dX12_call__85 rfl rfl ?_
    refine g_X12_50 (y := m12_call_) rfl dX12_call__86 hm ?_
    refine r_iload_n (y := m12_call_) dX12_call__89 rfl rfl ?_
    refine r_aload_n (y := m12_call_) dX12_call__90 rfl rfl ?_
    refine r_callV (y := m12_call_) (As := []) (b := 668) (ci := 12) dX12_call__91 rfl k12_newNames lm_X12_276 rfl ⟨by decide, by decide⟩ (so_668 hm) (by decide) rfl (Nat.le_of_ble_eq_true rfl) (C.mono h ?_)
    rintro _ m3 ⟨x5, rfl, hm4, h⟩
    refine ⟨_, rfl, ?_⟩
    obtain ⟨hb6, h⟩ := h
    refine r_iast (y := m12_call_) (n := 6000) dX12_call__94 (sa_682 hm4) hb6 ?_
    refine r_aload_n (y := m12_call_) dX12_call__95 rfl rfl ?_
    refine g_X12_53 (y := m12_call_) rfl dX12_call__96 (St.i hm4) ?_
    refine r_iload_n (y := m12_call_) dX12_call__99 rfl rfl ?_
    refine r_iload (y := m12_call_) dX12_call__100 rfl ?_
    obtain ⟨hb7, h⟩ := h
    refine r_iast (y := m12_call_) (n := 6000) dX12_call__102 (sa_683 (St.i hm4)) hb7 ?_
    refine r_aload_n (y := m12_call_) dX12_call__103 rfl rfl ?_
    refine r_bipush (y := m12_call_) (v := 6) dX12_call__104 (by decide) ?_
    refine r_iload_n (y := m12_call_) dX12_call__106 rfl rfl ?_
    refine r_iconst (y := m12_call_) (v := 0) dX12_call__107 (by decide) ?_
    refine r_iconst (y := m12_call_) (v := 0) dX12_call__108 (by decide) ?_
    refine r_callV (y := m12_call_) (As := [(.int 6), (.int v1), (.int 0), (.int 0)]) (b := 668) (ci := 12) dX12_call__109 rfl k12_task lm_X12_260 rfl ⟨by decide, by decide⟩ (so_668 (St.i (St.i hm4))) (by decide) rfl (Nat.le_of_ble_eq_true rfl) (C.mono h ?_)
    rintro _ m8 ⟨rfl, hm9, h⟩
    refine ⟨none, rfl, ?_⟩
    refine r_aload_n (y := m12_call_) dX12_call__112 rfl rfl ?_
    refine g_X12_7 (y := m12_call_) rfl dX12_call__113 hm9 ?_
    refine r_iload_n (y := m12_call_) dX12_call__116 rfl rfl ?_
    obtain ⟨hb10, h⟩ := h
    refine r_iald (y := m12_call_) (n := 8) dX12_call__117 (sa_669 hm9) hb10 ?_
    refine r_iconst (y := m12_call_) (v := 1) dX12_call__118 (by decide) ?_
    refine r_icmp_le (y := m12_call_) (tgt := 140) dX12_call__119 (by decide) (fun hc11 => ?_) (fun hc11 => ?_)
    · have h := h.1 hc11
      exact h
    · have h := h.2 hc11
      refine r_aload_n (y := m12_call_) dX12_call__122 rfl rfl ?_
      refine r_iconst (y := m12_call_) (v := 4) dX12_call__123 (by decide) ?_
      refine r_iload (y := m12_call_) dX12_call__124 rfl ?_
      refine r_iconst (y := m12_call_) (v := 1) dX12_call__126 (by decide) ?_
      refine r_callS (y := m12_call_) (As := [(.int (mI m 674 (Int32.toNatClampNeg ((24 * v2) + v5)))), (.int 1)]) dX12_call__127 rfl k12_patternAt lm_X12_194 rfl ⟨by decide, by decide⟩ (Nat.le_of_ble_eq_true rfl) (C.mono h ?_)
      rintro _ m12 ⟨x14, rfl, hm13, h⟩
      refine ⟨_, rfl, ?_⟩
      refine r_aload_n (y := m12_call_) dX12_call__130 rfl rfl ?_
      refine g_X12_44 (y := m12_call_) rfl dX12_call__131 hm13 ?_
      refine r_iload_n (y := m12_call_) dX12_call__134 rfl rfl ?_
      obtain ⟨hb15, h⟩ := h
      refine r_iald (y := m12_call_) (n := 6000) dX12_call__135 (sa_680 hm13) hb15 ?_
      refine r_iload_n (y := m12_call_) dX12_call__136 rfl rfl ?_
      refine r_callV (y := m12_call_) (As := [(.int 4), (.int x14), (.int (mI m12 680 (Int32.toNatClampNeg v1))), (.int v1)]) (b := 668) (ci := 12) dX12_call__137 rfl k12_task lm_X12_260 rfl ⟨by decide, by decide⟩ (so_668 hm13) (by decide) rfl (Nat.le_of_ble_eq_true rfl) (C.mono h ?_)
      rintro _ m16 ⟨rfl, hm17, h⟩
      refine ⟨none, rfl, ?_⟩
      exact h
  · have h := h.2 hc1
    exact r_ret (y := m12_call_) dX12_call__70 rfl h
