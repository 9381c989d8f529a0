/-! written by gen/drive.py -/
set_option maxHeartbeats 4000000 in
set_option maxRecDepth 100000 in
theorem w3_makeRun {m : Mm} {K : Option Value ⊕ String → Mm → Prop} (hm : St m) {e0 ne0 : Nat} (he0 : isExp m e0 ne0) (h : C m3_clear [(.ref 12)] m (fun o m1 => o = .inl none ∧ St m1 ∧ C m3_openScope [(.ref 12), .null, .null, (.ref e0)] m1 (fun o m3 => ∃ x5 : Int32, o = .inl (some (.int x5)) ∧ St m3 ∧ C m3_openNames [(.ref 12), (.int x5), (.int 0)] m3 (fun o m6 => o = .inl none ∧ St m6 ∧ isExp m6 e0 ne0 ∧ C m3_makeThings [(.ref 12), (.ref e0), (.int ((mI m6 e0 0) - 1)), (.int x5), (.int 0)] m6 (fun o m9 => ∃ x11 : Int32, o = .inl (some (.int x11)) ∧ St m9 ∧ C m9_push_ [(.ref 23), (.int 1), (.int x11)] (mSetI m9 12 7 x11) (fun o m12 => o = .inl none ∧ St m12 ∧ V m3_makeRun 49 [some (.ref 12), some (.ref e0), some (.int x5), some (.int 0)] [] m12 K)))))) : V m3_makeRun 0 [some (.ref 12), some (.ref e0), none, none] [] m K := by
  refine r_aload_n (y := m3_makeRun) dX3_makeRun_0 rfl rfl ?_
  refine r_callV (y := m3_makeRun) (As := []) (b := 12) (ci := 3) dX3_makeRun_1 rfl k3_clear lm_X3_73 rfl ⟨by decide, by decide⟩ (so_12 hm) (by decide) rfl (Nat.le_of_ble_eq_true rfl) (C.mono h ?_)
  rintro _ m1 ⟨rfl, hm2, h⟩
  refine ⟨none, rfl, ?_⟩
  refine r_aload_n (y := m3_makeRun) dX3_makeRun_4 rfl rfl ?_
  refine r_null (y := m3_makeRun) dX3_makeRun_5 ?_
  refine r_null (y := m3_makeRun) dX3_makeRun_6 ?_
  refine r_aload_n (y := m3_makeRun) dX3_makeRun_7 rfl rfl ?_
  refine r_callV (y := m3_makeRun) (As := [.null, .null, (.ref e0)]) (b := 12) (ci := 3) dX3_makeRun_8 rfl k3_openScope lm_X3_76 rfl ⟨by decide, by decide⟩ (so_12 hm2) (by decide) rfl (Nat.le_of_ble_eq_true rfl) (C.mono h ?_)
  rintro _ m3 ⟨x5, rfl, hm4, h⟩
  refine ⟨_, rfl, ?_⟩
  refine r_istore_n (y := m3_makeRun) (L' := [some (.ref 12), some (.ref e0), some (.int x5), none]) dX3_makeRun_11 rfl (Nat.le_of_ble_eq_true rfl) rfl ?_
  refine r_aload_n (y := m3_makeRun) dX3_makeRun_12 rfl rfl ?_
  refine r_iload_n (y := m3_makeRun) dX3_makeRun_13 rfl rfl ?_
  refine r_iconst (y := m3_makeRun) (v := 0) dX3_makeRun_14 (by decide) ?_
  refine r_callV (y := m3_makeRun) (As := [(.int x5), (.int 0)]) (b := 12) (ci := 3) dX3_makeRun_15 rfl k3_openNames lm_X3_80 rfl ⟨by decide, by decide⟩ (so_12 hm4) (by decide) rfl (Nat.le_of_ble_eq_true rfl) (C.mono h ?_)
  rintro _ m6 ⟨rfl, hm7, h⟩
  refine ⟨none, rfl, ?_⟩
  refine r_aload_n (y := m3_makeRun) dX3_makeRun_18 rfl rfl ?_
  refine r_aload_n (y := m3_makeRun) dX3_makeRun_19 rfl rfl ?_
  refine r_aload_n (y := m3_makeRun) dX3_makeRun_20 rfl rfl ?_
  refine r_aload_n (y := m3_makeRun) dX3_makeRun_21 rfl rfl ?_
  obtain ⟨hx8, h⟩ := h
  refine g_X3_84 (y := m3_makeRun) rfl dX3_makeRun_22 hx8 ?_
  refine r_iconst (y := m3_makeRun) (v := 1) dX3_makeRun_25 (by decide) ?_
  refine r_isub (y := m3_makeRun) dX3_makeRun_26 ?_
  refine r_iload_n (y := m3_makeRun) dX3_makeRun_27 rfl rfl ?_
  refine r_iconst (y := m3_makeRun) (v := 0) dX3_makeRun_28 (by decide) ?_
  refine r_callV (y := m3_makeRun) (As := [(.ref e0), (.int ((mI m6 e0 0) - 1)), (.int x5), (.int 0)]) (b := 12) (ci := 3) dX3_makeRun_29 rfl k3_makeThings lm_X3_89 rfl ⟨by decide, by decide⟩ (so_12 hm7) (by decide) rfl (Nat.le_of_ble_eq_true rfl) (C.mono h ?_)
  rintro _ m9 ⟨x11, rfl, hm10, h⟩
  refine ⟨_, rfl, ?_⟩
  refine p_X3_41 (y := m3_makeRun) rfl dX3_makeRun_32 hm10 ?_
  refine r_aload_n (y := m3_makeRun) dX3_makeRun_35 rfl rfl ?_
  refine g_X3_21 (y := m3_makeRun) rfl dX3_makeRun_36 (St.i hm10) ?_
  refine r_iconst (y := m3_makeRun) (v := 1) dX3_makeRun_39 (by decide) ?_
  refine r_aload_n (y := m3_makeRun) dX3_makeRun_40 rfl rfl ?_
  refine g_X3_41 (y := m3_makeRun) rfl dX3_makeRun_41 (St.i hm10) ?_
  refine V.top (b := x11) (by first | rfl | simp [mI_set, mI_setR]) ?_
  refine r_callVN (y := m3_makeRun) (As := [(.int 1), (.int x11)]) (b := 23) (ci := 9) dX3_makeRun_44 rfl k9_push_ lm_X3_93 rfl ⟨by decide, by decide⟩ (so_23 (St.i hm10)) (by decide) rfl (Nat.le_of_ble_eq_true rfl) (C.mono h ?_)
  rintro _ m12 ⟨rfl, hm13, h⟩
  refine ⟨none, rfl, ?_⟩
  refine r_iconst (y := m3_makeRun) (v := 0) dX3_makeRun_47 (by decide) ?_
  refine r_istore_n (y := m3_makeRun) (L' := [some (.ref 12), some (.ref e0), some (.int x5), some (.int 0)]) dX3_makeRun_48 rfl (Nat.le_of_ble_eq_true rfl) rfl ?_
  exact h
set_option maxHeartbeats 4000000 in
set_option maxRecDepth 100000 in
theorem w3_makeRun_49 {m : Mm} {K : Option Value ⊕ String → Mm → Prop} (hm : St m) {ee1 nn1 : Nat} {v2 : Int32} {v3 : Int32} (hee1 : isExp m ee1 nn1) (h : ((4000000 ≤ v3 → ((¬ (mI m 12 12) = 5 → K (.inl (some (.int (mI m 12 12)))) m) ∧ ((mI m 12 12) = 5 → K (.inl (some (.int 3))) (mSetI m 12 12 3)))) ∧ (¬ 4000000 ≤ v3 → ((¬ (mI m 12 12) = 5 → ((¬ (mI m 12 12) = 5 → K (.inl (some (.int (mI m 12 12)))) m) ∧ ((mI m 12 12) = 5 → K (.inl (some (.int 3))) (mSetI m 12 12 3)))) ∧ ((mI m 12 12) = 5 → ((¬ (mI m 23 4) = 0 → ((4980 < (mI m 23 4) → V m3_makeRun 49 [some (.ref 12), some (.ref ee1), some (.int v2), some (.int (v3 + 1))] [] (mSetI m 12 12 3) K) ∧ (¬ 4980 < (mI m 23 4) → (((mI m 13 9) ≤ 3480 → C m3_doNext [(.ref 12)] m (fun o m8 => o = .inl none ∧ St m8 ∧ V m3_makeRun 49 [some (.ref 12), some (.ref ee1), some (.int v2), some (.int (v3 + 1))] [] m8 K)) ∧ (¬ (mI m 13 9) ≤ 3480 → V m3_makeRun 49 [some (.ref 12), some (.ref ee1), some (.int v2), some (.int (v3 + 1))] [] (mSetI m 12 12 3) K))))) ∧ ((mI m 23 4) = 0 → V m3_makeRun 49 [some (.ref 12), some (.ref ee1), some (.int v2), some (.int (v3 + 1))] [] (mSetI m 12 12 0) K))))))) : V m3_makeRun 49 [some (.ref 12), some (.ref ee1), some (.int v2), some (.int v3)] [] m K := by
  refine r_iload_n (y := m3_makeRun) dX3_makeRun_49 rfl rfl ?_
  refine r_ldc (y := m3_makeRun) (v := 4000000) dX3_makeRun_50 (by decide +kernel) ?_
  refine r_icmp_ge (y := m3_makeRun) (tgt := 125) dX3_makeRun_52 (by decide) (fun hc1 => ?_) (fun hc1 => ?_)
  · have h := h.1 hc1
    refine r_aload_n (y := m3_makeRun) dX3_makeRun_125 rfl rfl ?_
    refine g_X3_57 (y := m3_makeRun) rfl dX3_makeRun_126 hm ?_
    refine r_iconst (y := m3_makeRun) (v := 5) dX3_makeRun_129 (by decide) ?_
    refine r_icmp_ne (y := m3_makeRun) (tgt := 138) dX3_makeRun_130 (by decide) (fun hc2 => ?_) (fun hc2 => ?_)
    · have h := h.1 hc2
      refine r_aload_n (y := m3_makeRun) dX3_makeRun_138 rfl rfl ?_
      refine g_X3_57 (y := m3_makeRun) rfl dX3_makeRun_139 hm ?_
      exact r_iret (y := m3_makeRun) dX3_makeRun_142 rfl rfl h
    · have h := h.2 hc2
      refine r_aload_n (y := m3_makeRun) dX3_makeRun_133 rfl rfl ?_
      refine r_iconst (y := m3_makeRun) (v := 3) dX3_makeRun_134 (by decide) ?_
      refine p_X3_57 (y := m3_makeRun) rfl dX3_makeRun_135 hm ?_
      refine r_aload_n (y := m3_makeRun) dX3_makeRun_138 rfl rfl ?_
      refine g_X3_57 (y := m3_makeRun) rfl dX3_makeRun_139 (St.i hm) ?_
      refine V.top (b := 3) (by first | rfl | simp [mI_set, mI_setR]) ?_
      exact r_iret (y := m3_makeRun) dX3_makeRun_142 rfl rfl h
  · have h := h.2 hc1
    refine r_aload_n (y := m3_makeRun) dX3_makeRun_55 rfl rfl ?_
    refine g_X3_57 (y := m3_makeRun) rfl dX3_makeRun_56 hm ?_
    refine r_iconst (y := m3_makeRun) (v := 5) dX3_makeRun_59 (by decide) ?_
    refine r_icmp_ne (y := m3_makeRun) (tgt := 125) dX3_makeRun_60 (by decide) (fun hc3 => ?_) (fun hc3 => ?_)
    · have h := h.1 hc3
      refine r_aload_n (y := m3_makeRun) dX3_makeRun_125 rfl rfl ?_
      refine g_X3_57 (y := m3_makeRun) rfl dX3_makeRun_126 hm ?_
      refine r_iconst (y := m3_makeRun) (v := 5) dX3_makeRun_129 (by decide) ?_
      refine r_icmp_ne (y := m3_makeRun) (tgt := 138) dX3_makeRun_130 (by decide) (fun hc4 => ?_) (fun hc4 => ?_)
      · have h := h.1 hc4
        refine r_aload_n (y := m3_makeRun) dX3_makeRun_138 rfl rfl ?_
        refine g_X3_57 (y := m3_makeRun) rfl dX3_makeRun_139 hm ?_
        exact r_iret (y := m3_makeRun) dX3_makeRun_142 rfl rfl h
      · have h := h.2 hc4
        refine r_aload_n (y := m3_makeRun) dX3_makeRun_133 rfl rfl ?_
        refine r_iconst (y := m3_makeRun) (v := 3) dX3_makeRun_134 (by decide) ?_
        refine p_X3_57 (y := m3_makeRun) rfl dX3_makeRun_135 hm ?_
        refine r_aload_n (y := m3_makeRun) dX3_makeRun_138 rfl rfl ?_
        refine g_X3_57 (y := m3_makeRun) rfl dX3_makeRun_139 (St.i hm) ?_
        refine V.top (b := 3) (by first | rfl | simp [mI_set, mI_setR]) ?_
        exact r_iret (y := m3_makeRun) dX3_makeRun_142 rfl rfl h
    · have h := h.2 hc3
      refine r_aload_n (y := m3_makeRun) dX3_makeRun_63 rfl rfl ?_
      refine g_X3_21 (y := m3_makeRun) rfl dX3_makeRun_64 hm ?_
      refine g_X3_97 (y := m3_makeRun) rfl dX3_makeRun_67 hm ?_
      refine r_if_ne (y := m3_makeRun) (tgt := 81) dX3_makeRun_70 (by decide) (fun hc5 => ?_) (fun hc5 => ?_)
      · have h := h.1 hc5
        refine r_aload_n (y := m3_makeRun) dX3_makeRun_81 rfl rfl ?_
        refine g_X3_21 (y := m3_makeRun) rfl dX3_makeRun_82 hm ?_
        refine g_X3_97 (y := m3_makeRun) rfl dX3_makeRun_85 hm ?_
        refine r_sipush (y := m3_makeRun) (v := 4980) dX3_makeRun_88 (by decide) ?_
        refine r_icmp_gt (y := m3_makeRun) (tgt := 107) dX3_makeRun_91 (by decide) (fun hc6 => ?_) (fun hc6 => ?_)
        · have h := h.1 hc6
          refine r_aload_n (y := m3_makeRun) dX3_makeRun_107 rfl rfl ?_
          refine r_iconst (y := m3_makeRun) (v := 3) dX3_makeRun_108 (by decide) ?_
          refine p_X3_57 (y := m3_makeRun) rfl dX3_makeRun_109 hm ?_
          refine r_goto (y := m3_makeRun) (tgt := 119) dX3_makeRun_112 (by decide) ?_
          refine r_iinc (y := m3_makeRun) (v := (v3 + 1)) (L' := [some (.ref 12), some (.ref ee1), some (.int v2), some (.int (v3 + 1))]) dX3_makeRun_119 rfl (by rfl) rfl ?_
          refine r_goto (y := m3_makeRun) (tgt := 49) dX3_makeRun_122 (by decide) ?_
          exact h
        · have h := h.2 hc6
          refine r_aload_n (y := m3_makeRun) dX3_makeRun_94 rfl rfl ?_
          refine g_X3_12 (y := m3_makeRun) rfl dX3_makeRun_95 hm ?_
          refine g_X3_98 (y := m3_makeRun) rfl dX3_makeRun_98 hm ?_
          refine r_sipush (y := m3_makeRun) (v := 3480) dX3_makeRun_101 (by decide) ?_
          refine r_icmp_le (y := m3_makeRun) (tgt := 115) dX3_makeRun_104 (by decide) (fun hc7 => ?_) (fun hc7 => ?_)
          · have h := h.1 hc7
            refine r_aload_n (y := m3_makeRun) dX3_makeRun_115 rfl rfl ?_
            refine r_callV (y := m3_makeRun) (As := []) (b := 12) (ci := 3) dX3_makeRun_116 rfl k3_doNext lm_X3_99 rfl ⟨by decide, by decide⟩ (so_12 hm) (by decide) rfl (Nat.le_of_ble_eq_true rfl) (C.mono h ?_)
            rintro _ m8 ⟨rfl, hm9, h⟩
            refine ⟨none, rfl, ?_⟩
            refine r_iinc (y := m3_makeRun) (v := (v3 + 1)) (L' := [some (.ref 12), some (.ref ee1), some (.int v2), some (.int (v3 + 1))]) dX3_makeRun_119 rfl (by rfl) rfl ?_
            refine r_goto (y := m3_makeRun) (tgt := 49) dX3_makeRun_122 (by decide) ?_
            exact h
          · have h := h.2 hc7
            refine r_aload_n (y := m3_makeRun) dX3_makeRun_107 rfl rfl ?_
            refine r_iconst (y := m3_makeRun) (v := 3) dX3_makeRun_108 (by decide) ?_
            refine p_X3_57 (y := m3_makeRun) rfl dX3_makeRun_109 hm ?_
            refine r_goto (y := m3_makeRun) (tgt := 119) dX3_makeRun_112 (by decide) ?_
            refine r_iinc (y := m3_makeRun) (v := (v3 + 1)) (L' := [some (.ref 12), some (.ref ee1), some (.int v2), some (.int (v3 + 1))]) dX3_makeRun_119 rfl (by rfl) rfl ?_
            refine r_goto (y := m3_makeRun) (tgt := 49) dX3_makeRun_122 (by decide) ?_
            exact h
      · have h := h.2 hc5
        refine r_aload_n (y := m3_makeRun) dX3_makeRun_73 rfl rfl ?_
        refine r_iconst (y := m3_makeRun) (v := 0) dX3_makeRun_74 (by decide) ?_
        refine p_X3_57 (y := m3_makeRun) rfl dX3_makeRun_75 hm ?_
        refine r_goto (y := m3_makeRun) (tgt := 119) dX3_makeRun_78 (by decide) ?_
        refine r_iinc (y := m3_makeRun) (v := (v3 + 1)) (L' := [some (.ref 12), some (.ref ee1), some (.int v2), some (.int (v3 + 1))]) dX3_makeRun_119 rfl (by rfl) rfl ?_
        refine r_goto (y := m3_makeRun) (tgt := 49) dX3_makeRun_122 (by decide) ?_
        exact h
set_option maxHeartbeats 4000000 in
set_option maxRecDepth 100000 in
theorem w3_clear {m : Mm} {K : Option Value ⊕ String → Mm → Prop} (hm : St m)   (h : K (.inl none) (mSetI (mSetI (mSetI (mSetI (mSetI (mSetI (mSetI (mSetI (mSetI (mSetI (mSetI m 13 9 0) 13 10 0) 23 4 0) 12 8 0) 12 9 0) 12 10 1) 12 11 0) 12 12 5) 12 13 0) (235 + 3 * 0) 3 0) (235 + 3 * 0) 4 1)) : V m3_clear 0 [some (.ref 12)] [] m K := by
  refine r_aload_n (y := m3_clear) dX3_clear_0 rfl rfl ?_
  refine g_X3_12 (y := m3_clear) rfl dX3_clear_1 hm ?_
  refine r_iconst (y := m3_clear) (v := 0) dX3_clear_4 (by decide) ?_
  refine p_X3_98 (y := m3_clear) rfl dX3_clear_5 hm ?_
  refine r_aload_n (y := m3_clear) dX3_clear_8 rfl rfl ?_
  refine g_X3_12 (y := m3_clear) rfl dX3_clear_9 (St.i hm) ?_
  refine r_iconst (y := m3_clear) (v := 0) dX3_clear_12 (by decide) ?_
  refine p_X3_102 (y := m3_clear) rfl dX3_clear_13 (St.i hm) ?_
  refine r_aload_n (y := m3_clear) dX3_clear_16 rfl rfl ?_
  refine g_X3_21 (y := m3_clear) rfl dX3_clear_17 (St.i (St.i hm)) ?_
  refine r_iconst (y := m3_clear) (v := 0) dX3_clear_20 (by decide) ?_
  refine p_X3_97 (y := m3_clear) rfl dX3_clear_21 (St.i (St.i hm)) ?_
  refine r_aload_n (y := m3_clear) dX3_clear_24 rfl rfl ?_
  refine r_iconst (y := m3_clear) (v := 0) dX3_clear_25 (by decide) ?_
  refine p_X3_45 (y := m3_clear) rfl dX3_clear_26 (St.i (St.i (St.i hm))) ?_
  refine r_aload_n (y := m3_clear) dX3_clear_29 rfl rfl ?_
  refine r_iconst (y := m3_clear) (v := 0) dX3_clear_30 (by decide) ?_
  refine p_X3_48 (y := m3_clear) rfl dX3_clear_31 (St.i (St.i (St.i (St.i hm)))) ?_
  refine r_aload_n (y := m3_clear) dX3_clear_34 rfl rfl ?_
  refine r_iconst (y := m3_clear) (v := 1) dX3_clear_35 (by decide) ?_
  refine p_X3_51 (y := m3_clear) rfl dX3_clear_36 (St.i (St.i (St.i (St.i (St.i hm))))) ?_
  refine r_aload_n (y := m3_clear) dX3_clear_39 rfl rfl ?_
  refine r_iconst (y := m3_clear) (v := 0) dX3_clear_40 (by decide) ?_
  refine p_X3_54 (y := m3_clear) rfl dX3_clear_41 (St.i (St.i (St.i (St.i (St.i (St.i hm)))))) ?_
  refine r_aload_n (y := m3_clear) dX3_clear_44 rfl rfl ?_
  refine r_iconst (y := m3_clear) (v := 5) dX3_clear_45 (by decide) ?_
  refine p_X3_57 (y := m3_clear) rfl dX3_clear_46 (St.i (St.i (St.i (St.i (St.i (St.i (St.i hm))))))) ?_
  refine r_aload_n (y := m3_clear) dX3_clear_49 rfl rfl ?_
  refine r_iconst (y := m3_clear) (v := 0) dX3_clear_50 (by decide) ?_
  refine p_X3_60 (y := m3_clear) rfl dX3_clear_51 (St.i (St.i (St.i (St.i (St.i (St.i (St.i (St.i hm)))))))) ?_
  refine r_aload_n (y := m3_clear) dX3_clear_54 rfl rfl ?_
  refine g_X3_69 (y := m3_clear) rfl dX3_clear_55 (St.i (St.i (St.i (St.i (St.i (St.i (St.i (St.i (St.i hm))))))))) ?_
  refine r_iconst (y := m3_clear) (v := 0) dX3_clear_58 (by decide) ?_
  refine p_X3_105 (y := m3_clear) (i := 0) rfl dX3_clear_59 (St.i (St.i (St.i (St.i (St.i (St.i (St.i (St.i (St.i hm))))))))) (by decide) ?_
  refine r_aload_n (y := m3_clear) dX3_clear_62 rfl rfl ?_
  refine g_X3_69 (y := m3_clear) rfl dX3_clear_63 (St.i (St.i (St.i (St.i (St.i (St.i (St.i (St.i (St.i (St.i hm)))))))))) ?_
  refine r_iconst (y := m3_clear) (v := 1) dX3_clear_66 (by decide) ?_
  refine p_X3_108 (y := m3_clear) (i := 0) rfl dX3_clear_67 (St.i (St.i (St.i (St.i (St.i (St.i (St.i (St.i (St.i (St.i hm)))))))))) (by decide) ?_
  exact r_ret (y := m3_clear) dX3_clear_70 rfl h
set_option maxHeartbeats 4000000 in
set_option maxRecDepth 100000 in
theorem w3_doNext {m : Mm} {K : Option Value ⊕ String → Mm → Prop} (hm : St m)   (h : vp_in ((mI m 23 4) - 1) 5000 ∧ vp_in ((mI m 23 4) - 1) 5000 ∧ vp_in ((mI m 23 4) - 1) 5000 ∧ vp_in ((mI m 23 4) - 1) 5000 ∧ (((mI m 24 (Int32.toNatClampNeg ((mI m 23 4) - 1))) = 0 → C m10_find [(.ref 13), (.int (mI m 25 (Int32.toNatClampNeg ((mI m 23 4) - 1))))] (mSetI m 23 4 ((mI m 23 4) - 1)) (fun o m6 => ∃ x8 : Int32, o = .inl (some (.int x8)) ∧ St m6 ∧ C m3_force [(.ref 12), (.int x8)] m6 (fun o m9 => o = .inl none ∧ St m9 ∧ K (.inl none) m9))) ∧ ((mI m 24 (Int32.toNatClampNeg ((mI m 23 4) - 1))) = 1 → C m10_find [(.ref 13), (.int (mI m 25 (Int32.toNatClampNeg ((mI m 23 4) - 1))))] (mSetI m 23 4 ((mI m 23 4) - 1)) (fun o m12 => ∃ x14 : Int32, o = .inl (some (.int x14)) ∧ St m12 ∧ C m3_makeWhole [(.ref 12), (.int x14)] m12 (fun o m15 => o = .inl none ∧ St m15 ∧ K (.inl none) m15))) ∧ ((mI m 24 (Int32.toNatClampNeg ((mI m 23 4) - 1))) = 2 → C m3_match [(.ref 12), (.int (mI m 25 (Int32.toNatClampNeg ((mI m 23 4) - 1)))), (.int (mI m 26 (Int32.toNatClampNeg ((mI m 23 4) - 1)))), (.int (mI m 27 (Int32.toNatClampNeg ((mI m 23 4) - 1))))] (mSetI m 23 4 ((mI m 23 4) - 1)) (fun o m18 => o = .inl none ∧ St m18 ∧ K (.inl none) m18)) ∧ ((mI m 24 (Int32.toNatClampNeg ((mI m 23 4) - 1))) = 3 → C m3_applyRule [(.ref 12), (.int (mI m 25 (Int32.toNatClampNeg ((mI m 23 4) - 1))))] (mSetI m 23 4 ((mI m 23 4) - 1)) (fun o m21 => o = .inl none ∧ St m21 ∧ K (.inl none) m21)) ∧ ((mI m 24 (Int32.toNatClampNeg ((mI m 23 4) - 1))) = 4 → C m10_find [(.ref 13), (.int (mI m 25 (Int32.toNatClampNeg ((mI m 23 4) - 1))))] (mSetI m 23 4 ((mI m 23 4) - 1)) (fun o m24 => ∃ x26 : Int32, o = .inl (some (.int x26)) ∧ St m24 ∧ C m10_find [(.ref 13), (.int (mI m 26 (Int32.toNatClampNeg ((mI m 23 4) - 1))))] m24 (fun o m27 => ∃ x29 : Int32, o = .inl (some (.int x29)) ∧ St m27 ∧ vp_in (mI m 27 (Int32.toNatClampNeg ((mI m 23 4) - 1))) 3500 ∧ C m3_unite [(.ref 12), (.int x26), (.int x29), (.int (mI m27 19 (Int32.toNatClampNeg (mI m 27 (Int32.toNatClampNeg ((mI m 23 4) - 1)))))), (.int (mI m 27 (Int32.toNatClampNeg ((mI m 23 4) - 1))))] m27 (fun o m31 => o = .inl none ∧ St m31 ∧ K (.inl none) m31)))) ∧ ((mI m 24 (Int32.toNatClampNeg ((mI m 23 4) - 1))) = 5 → C m10_becomeData [(.ref 13), (.int (mI m 25 (Int32.toNatClampNeg ((mI m 23 4) - 1)))), (.int 1), (.int (-1)), (.int (-1))] (mSetI m 23 4 ((mI m 23 4) - 1)) (fun o m34 => o = .inl none ∧ St m34 ∧ K (.inl none) m34)) ∧ ((mI m 24 (Int32.toNatClampNeg ((mI m 23 4) - 1))) = 6 → C m10_find [(.ref 13), (.int (mI m 25 (Int32.toNatClampNeg ((mI m 23 4) - 1))))] (mSetI m 23 4 ((mI m 23 4) - 1)) (fun o m37 => ∃ x39 : Int32, o = .inl (some (.int x39)) ∧ St m37 ∧ C m10_find [(.ref 13), (.int (mI m 26 (Int32.toNatClampNeg ((mI m 23 4) - 1))))] m37 (fun o m40 => ∃ x42 : Int32, o = .inl (some (.int x42)) ∧ St m40 ∧ C m3_ask [(.ref 12), (.int x39), (.int x42), (.int (mI m 27 (Int32.toNatClampNeg ((mI m 23 4) - 1))))] m40 (fun o m43 => o = .inl none ∧ St m43 ∧ K (.inl none) m43)))) ∧ ((mI m 24 (Int32.toNatClampNeg ((mI m 23 4) - 1))) = 7 → vp_in (mI m 25 (Int32.toNatClampNeg ((mI m 23 4) - 1))) 3500 ∧ C m3_fail [(.ref 12), (.int (mI m 19 (Int32.toNatClampNeg (mI m 25 (Int32.toNatClampNeg ((mI m 23 4) - 1))))))] (mSetI m 23 4 ((mI m 23 4) - 1)) (fun o m47 => o = .inl none ∧ St m47 ∧ K (.inl none) m47)) ∧ ((mI m 24 (Int32.toNatClampNeg ((mI m 23 4) - 1))) = 8 → vp_in (mI m 12 9) 102 ∧ C m3_startRunWithin [(.ref 12), (.ref (235 + 3 * (Int32.toNatClampNeg (mI m 12 9))))] (mSetI m 23 4 ((mI m 23 4) - 1)) (fun o m52 => o = .inl none ∧ St m52 ∧ K (.inl none) m52)) ∧ (¬ (mI m 24 (Int32.toNatClampNeg ((mI m 23 4) - 1))) = 0 → ¬ (mI m 24 (Int32.toNatClampNeg ((mI m 23 4) - 1))) = 1 → ¬ (mI m 24 (Int32.toNatClampNeg ((mI m 23 4) - 1))) = 2 → ¬ (mI m 24 (Int32.toNatClampNeg ((mI m 23 4) - 1))) = 3 → ¬ (mI m 24 (Int32.toNatClampNeg ((mI m 23 4) - 1))) = 4 → ¬ (mI m 24 (Int32.toNatClampNeg ((mI m 23 4) - 1))) = 5 → ¬ (mI m 24 (Int32.toNatClampNeg ((mI m 23 4) - 1))) = 6 → ¬ (mI m 24 (Int32.toNatClampNeg ((mI m 23 4) - 1))) = 7 → ¬ (mI m 24 (Int32.toNatClampNeg ((mI m 23 4) - 1))) = 8 → C m3_endRunWithin [(.ref 12)] (mSetI m 23 4 ((mI m 23 4) - 1)) (fun o m54 => o = .inl none ∧ St m54 ∧ K (.inl none) m54)))) : V m3_doNext 0 [some (.ref 12), none, none, none, none] [] m K := by
  refine r_aload_n (y := m3_doNext) dX3_doNext_0 rfl rfl ?_
  refine g_X3_21 (y := m3_doNext) rfl dX3_doNext_1 hm ?_
  refine g_X3_97 (y := m3_doNext) rfl dX3_doNext_4 hm ?_
  refine r_iconst (y := m3_doNext) (v := 1) dX3_doNext_7 (by decide) ?_
  refine r_isub (y := m3_doNext) dX3_doNext_8 ?_
  refine r_istore_n (y := m3_doNext) (L' := [some (.ref 12), some (.int ((mI m 23 4) - 1)), none, none, none]) dX3_doNext_9 rfl (Nat.le_of_ble_eq_true rfl) rfl ?_
  refine r_aload_n (y := m3_doNext) dX3_doNext_10 rfl rfl ?_
  refine g_X3_21 (y := m3_doNext) rfl dX3_doNext_11 hm ?_
  refine r_iload_n (y := m3_doNext) dX3_doNext_14 rfl rfl ?_
  refine p_X3_97 (y := m3_doNext) rfl dX3_doNext_15 hm ?_
  refine r_aload_n (y := m3_doNext) dX3_doNext_18 rfl rfl ?_
  refine g_X3_21 (y := m3_doNext) rfl dX3_doNext_19 (St.i hm) ?_
  refine g_X3_111 (y := m3_doNext) rfl dX3_doNext_22 (St.i hm) ?_
  refine r_iload_n (y := m3_doNext) dX3_doNext_25 rfl rfl ?_
  obtain ⟨hb1, h⟩ := h
  refine r_iald (y := m3_doNext) (n := 5000) dX3_doNext_26 (sa_25 (St.i hm)) hb1 ?_
  refine V.top (b := (mI m 25 (Int32.toNatClampNeg ((mI m 23 4) - 1)))) (by first | rfl | simp [mI_set, mI_setR]) ?_
  refine r_istore_n (y := m3_doNext) (L' := [some (.ref 12), some (.int ((mI m 23 4) - 1)), some (.int (mI m 25 (Int32.toNatClampNeg ((mI m 23 4) - 1)))), none, none]) dX3_doNext_27 rfl (Nat.le_of_ble_eq_true rfl) rfl ?_
  refine r_aload_n (y := m3_doNext) dX3_doNext_28 rfl rfl ?_
  refine g_X3_21 (y := m3_doNext) rfl dX3_doNext_29 (St.i hm) ?_
  refine g_X3_114 (y := m3_doNext) rfl dX3_doNext_32 (St.i hm) ?_
  refine r_iload_n (y := m3_doNext) dX3_doNext_35 rfl rfl ?_
  obtain ⟨hb2, h⟩ := h
  refine r_iald (y := m3_doNext) (n := 5000) dX3_doNext_36 (sa_26 (St.i hm)) hb2 ?_
  refine V.top (b := (mI m 26 (Int32.toNatClampNeg ((mI m 23 4) - 1)))) (by first | rfl | simp [mI_set, mI_setR]) ?_
  refine r_istore_n (y := m3_doNext) (L' := [some (.ref 12), some (.int ((mI m 23 4) - 1)), some (.int (mI m 25 (Int32.toNatClampNeg ((mI m 23 4) - 1)))), some (.int (mI m 26 (Int32.toNatClampNeg ((mI m 23 4) - 1)))), none]) dX3_doNext_37 rfl (Nat.le_of_ble_eq_true rfl) rfl ?_
  refine r_aload_n (y := m3_doNext) dX3_doNext_38 rfl rfl ?_
  refine g_X3_21 (y := m3_doNext) rfl dX3_doNext_39 (St.i hm) ?_
  refine g_X3_117 (y := m3_doNext) rfl dX3_doNext_42 (St.i hm) ?_
  refine r_iload_n (y := m3_doNext) dX3_doNext_45 rfl rfl ?_
  obtain ⟨hb3, h⟩ := h
  refine r_iald (y := m3_doNext) (n := 5000) dX3_doNext_46 (sa_27 (St.i hm)) hb3 ?_
  refine V.top (b := (mI m 27 (Int32.toNatClampNeg ((mI m 23 4) - 1)))) (by first | rfl | simp [mI_set, mI_setR]) ?_
  refine r_istore (y := m3_doNext) (L' := [some (.ref 12), some (.int ((mI m 23 4) - 1)), some (.int (mI m 25 (Int32.toNatClampNeg ((mI m 23 4) - 1)))), some (.int (mI m 26 (Int32.toNatClampNeg ((mI m 23 4) - 1)))), some (.int (mI m 27 (Int32.toNatClampNeg ((mI m 23 4) - 1))))]) dX3_doNext_47 (Nat.le_of_ble_eq_true rfl) rfl ?_
  refine r_aload_n (y := m3_doNext) dX3_doNext_49 rfl rfl ?_
  refine g_X3_21 (y := m3_doNext) rfl dX3_doNext_50 (St.i hm) ?_
  refine g_X3_120 (y := m3_doNext) rfl dX3_doNext_53 (St.i hm) ?_
  refine r_iload_n (y := m3_doNext) dX3_doNext_56 rfl rfl ?_
  obtain ⟨hb4, h⟩ := h
  refine r_iald (y := m3_doNext) (n := 5000) dX3_doNext_57 (sa_24 (St.i hm)) hb4 ?_
  refine V.top (b := (mI m 24 (Int32.toNatClampNeg ((mI m 23 4) - 1)))) (by first | rfl | simp [mI_set, mI_setR]) ?_
  by_cases hc5 : (mI m 24 (Int32.toNatClampNeg ((mI m 23 4) - 1))) = 0
  · have h := h.1 hc5
    refine r_tableIn (y := m3_doNext) (x := (mI m 24 (Int32.toNatClampNeg ((mI m 23 4) - 1)))) (off := 50) (tgt := 108) dX3_doNext_58 (by rw [hc5]; decide) (by rw [hc5]; decide) (by rw [hc5]; rfl) (by decide) ?_
    refine r_aload_n (y := m3_doNext) dX3_doNext_108 rfl rfl ?_
    refine r_aload_n (y := m3_doNext) dX3_doNext_109 rfl rfl ?_
    refine g_X3_12 (y := m3_doNext) rfl dX3_doNext_110 (St.i hm) ?_
    refine r_iload_n (y := m3_doNext) dX3_doNext_113 rfl rfl ?_
    refine r_callVN (y := m3_doNext) (As := [(.int (mI m 25 (Int32.toNatClampNeg ((mI m 23 4) - 1))))]) (b := 13) (ci := 10) dX3_doNext_114 rfl k10_find lm_X3_123 rfl ⟨by decide, by decide⟩ (so_13 (St.i hm)) (by decide) rfl (Nat.le_of_ble_eq_true rfl) (C.mono h ?_)
    rintro _ m6 ⟨x8, rfl, hm7, h⟩
    refine ⟨_, rfl, ?_⟩
    refine r_callV (y := m3_doNext) (As := [(.int x8)]) (b := 12) (ci := 3) dX3_doNext_117 rfl k3_force lm_X3_127 rfl ⟨by decide, by decide⟩ (so_12 hm7) (by decide) rfl (Nat.le_of_ble_eq_true rfl) (C.mono h ?_)
    rintro _ m9 ⟨rfl, hm10, h⟩
    refine ⟨none, rfl, ?_⟩
    refine r_goto (y := m3_doNext) (tgt := 267) dX3_doNext_120 (by decide) ?_
    exact r_ret (y := m3_doNext) dX3_doNext_267 rfl h
  by_cases hc11 : (mI m 24 (Int32.toNatClampNeg ((mI m 23 4) - 1))) = 1
  · have h := h.2.1 hc11
    refine r_tableIn (y := m3_doNext) (x := (mI m 24 (Int32.toNatClampNeg ((mI m 23 4) - 1)))) (off := 65) (tgt := 123) dX3_doNext_58 (by rw [hc11]; decide) (by rw [hc11]; decide) (by rw [hc11]; rfl) (by decide) ?_
    refine r_aload_n (y := m3_doNext) dX3_doNext_123 rfl rfl ?_
    refine r_aload_n (y := m3_doNext) dX3_doNext_124 rfl rfl ?_
    refine g_X3_12 (y := m3_doNext) rfl dX3_doNext_125 (St.i hm) ?_
    refine r_iload_n (y := m3_doNext) dX3_doNext_128 rfl rfl ?_
    refine r_callVN (y := m3_doNext) (As := [(.int (mI m 25 (Int32.toNatClampNeg ((mI m 23 4) - 1))))]) (b := 13) (ci := 10) dX3_doNext_129 rfl k10_find lm_X3_123 rfl ⟨by decide, by decide⟩ (so_13 (St.i hm)) (by decide) rfl (Nat.le_of_ble_eq_true rfl) (C.mono h ?_)
    rintro _ m12 ⟨x14, rfl, hm13, h⟩
    refine ⟨_, rfl, ?_⟩
    refine r_callV (y := m3_doNext) (As := [(.int x14)]) (b := 12) (ci := 3) dX3_doNext_132 rfl k3_makeWhole lm_X3_131 rfl ⟨by decide, by decide⟩ (so_12 hm13) (by decide) rfl (Nat.le_of_ble_eq_true rfl) (C.mono h ?_)
    rintro _ m15 ⟨rfl, hm16, h⟩
    refine ⟨none, rfl, ?_⟩
    refine r_goto (y := m3_doNext) (tgt := 267) dX3_doNext_135 (by decide) ?_
    exact r_ret (y := m3_doNext) dX3_doNext_267 rfl h
  by_cases hc17 : (mI m 24 (Int32.toNatClampNeg ((mI m 23 4) - 1))) = 2
  · have h := h.2.2.1 hc17
    refine r_tableIn (y := m3_doNext) (x := (mI m 24 (Int32.toNatClampNeg ((mI m 23 4) - 1)))) (off := 80) (tgt := 138) dX3_doNext_58 (by rw [hc17]; decide) (by rw [hc17]; decide) (by rw [hc17]; rfl) (by decide) ?_
    refine r_aload_n (y := m3_doNext) dX3_doNext_138 rfl rfl ?_
    refine r_iload_n (y := m3_doNext) dX3_doNext_139 rfl rfl ?_
    refine r_iload_n (y := m3_doNext) dX3_doNext_140 rfl rfl ?_
    refine r_iload (y := m3_doNext) dX3_doNext_141 rfl ?_
    refine r_callV (y := m3_doNext) (As := [(.int (mI m 25 (Int32.toNatClampNeg ((mI m 23 4) - 1)))), (.int (mI m 26 (Int32.toNatClampNeg ((mI m 23 4) - 1)))), (.int (mI m 27 (Int32.toNatClampNeg ((mI m 23 4) - 1))))]) (b := 12) (ci := 3) dX3_doNext_143 rfl k3_match lm_X3_134 rfl ⟨by decide, by decide⟩ (so_12 (St.i hm)) (by decide) rfl (Nat.le_of_ble_eq_true rfl) (C.mono h ?_)
    rintro _ m18 ⟨rfl, hm19, h⟩
    refine ⟨none, rfl, ?_⟩
    refine r_goto (y := m3_doNext) (tgt := 267) dX3_doNext_146 (by decide) ?_
    exact r_ret (y := m3_doNext) dX3_doNext_267 rfl h
  by_cases hc20 : (mI m 24 (Int32.toNatClampNeg ((mI m 23 4) - 1))) = 3
  · have h := h.2.2.2.1 hc20
    refine r_tableIn (y := m3_doNext) (x := (mI m 24 (Int32.toNatClampNeg ((mI m 23 4) - 1)))) (off := 91) (tgt := 149) dX3_doNext_58 (by rw [hc20]; decide) (by rw [hc20]; decide) (by rw [hc20]; rfl) (by decide) ?_
    refine r_aload_n (y := m3_doNext) dX3_doNext_149 rfl rfl ?_
    refine r_iload_n (y := m3_doNext) dX3_doNext_150 rfl rfl ?_
    refine r_callV (y := m3_doNext) (As := [(.int (mI m 25 (Int32.toNatClampNeg ((mI m 23 4) - 1))))]) (b := 12) (ci := 3) dX3_doNext_151 rfl k3_applyRule lm_X3_138 rfl ⟨by decide, by decide⟩ (so_12 (St.i hm)) (by decide) rfl (Nat.le_of_ble_eq_true rfl) (C.mono h ?_)
    rintro _ m21 ⟨rfl, hm22, h⟩
    refine ⟨none, rfl, ?_⟩
    refine r_goto (y := m3_doNext) (tgt := 267) dX3_doNext_154 (by decide) ?_
    exact r_ret (y := m3_doNext) dX3_doNext_267 rfl h
  by_cases hc23 : (mI m 24 (Int32.toNatClampNeg ((mI m 23 4) - 1))) = 4
  · have h := h.2.2.2.2.1 hc23
    refine r_tableIn (y := m3_doNext) (x := (mI m 24 (Int32.toNatClampNeg ((mI m 23 4) - 1)))) (off := 99) (tgt := 157) dX3_doNext_58 (by rw [hc23]; decide) (by rw [hc23]; decide) (by rw [hc23]; rfl) (by decide) ?_
    refine r_aload_n (y := m3_doNext) dX3_doNext_157 rfl rfl ?_
    refine r_aload_n (y := m3_doNext) dX3_doNext_158 rfl rfl ?_
    refine g_X3_12 (y := m3_doNext) rfl dX3_doNext_159 (St.i hm) ?_
    refine r_iload_n (y := m3_doNext) dX3_doNext_162 rfl rfl ?_
    refine r_callVN (y := m3_doNext) (As := [(.int (mI m 25 (Int32.toNatClampNeg ((mI m 23 4) - 1))))]) (b := 13) (ci := 10) dX3_doNext_163 rfl k10_find lm_X3_123 rfl ⟨by decide, by decide⟩ (so_13 (St.i hm)) (by decide) rfl (Nat.le_of_ble_eq_true rfl) (C.mono h ?_)
    rintro _ m24 ⟨x26, rfl, hm25, h⟩
    refine ⟨_, rfl, ?_⟩
    refine r_aload_n (y := m3_doNext) dX3_doNext_166 rfl rfl ?_
    refine g_X3_12 (y := m3_doNext) rfl dX3_doNext_167 hm25 ?_
    refine r_iload_n (y := m3_doNext) dX3_doNext_170 rfl rfl ?_
    refine r_callVN (y := m3_doNext) (As := [(.int (mI m 26 (Int32.toNatClampNeg ((mI m 23 4) - 1))))]) (b := 13) (ci := 10) dX3_doNext_171 rfl k10_find lm_X3_123 rfl ⟨by decide, by decide⟩ (so_13 hm25) (by decide) rfl (Nat.le_of_ble_eq_true rfl) (C.mono h ?_)
    rintro _ m27 ⟨x29, rfl, hm28, h⟩
    refine ⟨_, rfl, ?_⟩
    refine r_aload_n (y := m3_doNext) dX3_doNext_174 rfl rfl ?_
    refine g_X3_12 (y := m3_doNext) rfl dX3_doNext_175 hm28 ?_
    refine g_X3_141 (y := m3_doNext) rfl dX3_doNext_178 hm28 ?_
    refine r_iload (y := m3_doNext) dX3_doNext_181 rfl ?_
    obtain ⟨hb30, h⟩ := h
    refine r_iald (y := m3_doNext) (n := 3500) dX3_doNext_183 (sa_19 hm28) hb30 ?_
    refine r_iload (y := m3_doNext) dX3_doNext_184 rfl ?_
    refine r_callV (y := m3_doNext) (As := [(.int x26), (.int x29), (.int (mI m27 19 (Int32.toNatClampNeg (mI m 27 (Int32.toNatClampNeg ((mI m 23 4) - 1)))))), (.int (mI m 27 (Int32.toNatClampNeg ((mI m 23 4) - 1))))]) (b := 12) (ci := 3) dX3_doNext_186 rfl k3_unite lm_X3_144 rfl ⟨by decide, by decide⟩ (so_12 hm28) (by decide) rfl (Nat.le_of_ble_eq_true rfl) (C.mono h ?_)
    rintro _ m31 ⟨rfl, hm32, h⟩
    refine ⟨none, rfl, ?_⟩
    refine r_goto (y := m3_doNext) (tgt := 267) dX3_doNext_189 (by decide) ?_
    exact r_ret (y := m3_doNext) dX3_doNext_267 rfl h
  by_cases hc33 : (mI m 24 (Int32.toNatClampNeg ((mI m 23 4) - 1))) = 5
  · have h := h.2.2.2.2.2.1 hc33
    refine r_tableIn (y := m3_doNext) (x := (mI m 24 (Int32.toNatClampNeg ((mI m 23 4) - 1)))) (off := 134) (tgt := 192) dX3_doNext_58 (by rw [hc33]; decide) (by rw [hc33]; decide) (by rw [hc33]; rfl) (by decide) ?_
    refine r_aload_n (y := m3_doNext) dX3_doNext_192 rfl rfl ?_
    refine g_X3_12 (y := m3_doNext) rfl dX3_doNext_193 (St.i hm) ?_
    refine r_iload_n (y := m3_doNext) dX3_doNext_196 rfl rfl ?_
    refine r_iconst (y := m3_doNext) (v := 1) dX3_doNext_197 (by decide) ?_
    refine r_iconst (y := m3_doNext) (v := (-1)) dX3_doNext_198 (by decide) ?_
    refine r_iconst (y := m3_doNext) (v := (-1)) dX3_doNext_199 (by decide) ?_
    refine r_callVN (y := m3_doNext) (As := [(.int (mI m 25 (Int32.toNatClampNeg ((mI m 23 4) - 1)))), (.int 1), (.int (-1)), (.int (-1))]) (b := 13) (ci := 10) dX3_doNext_200 rfl k10_becomeData lm_X3_148 rfl ⟨by decide, by decide⟩ (so_13 (St.i hm)) (by decide) rfl (Nat.le_of_ble_eq_true rfl) (C.mono h ?_)
    rintro _ m34 ⟨rfl, hm35, h⟩
    refine ⟨none, rfl, ?_⟩
    refine r_goto (y := m3_doNext) (tgt := 267) dX3_doNext_203 (by decide) ?_
    exact r_ret (y := m3_doNext) dX3_doNext_267 rfl h
  by_cases hc36 : (mI m 24 (Int32.toNatClampNeg ((mI m 23 4) - 1))) = 6
  · have h := h.2.2.2.2.2.2.1 hc36
    refine r_tableIn (y := m3_doNext) (x := (mI m 24 (Int32.toNatClampNeg ((mI m 23 4) - 1)))) (off := 148) (tgt := 206) dX3_doNext_58 (by rw [hc36]; decide) (by rw [hc36]; decide) (by rw [hc36]; rfl) (by decide) ?_
    refine r_aload_n (y := m3_doNext) dX3_doNext_206 rfl rfl ?_
    refine r_aload_n (y := m3_doNext) dX3_doNext_207 rfl rfl ?_
    refine g_X3_12 (y := m3_doNext) rfl dX3_doNext_208 (St.i hm) ?_
    refine r_iload_n (y := m3_doNext) dX3_doNext_211 rfl rfl ?_
    refine r_callVN (y := m3_doNext) (As := [(.int (mI m 25 (Int32.toNatClampNeg ((mI m 23 4) - 1))))]) (b := 13) (ci := 10) dX3_doNext_212 rfl k10_find lm_X3_123 rfl ⟨by decide, by decide⟩ (so_13 (St.i hm)) (by decide) rfl (Nat.le_of_ble_eq_true rfl) (C.mono h ?_)
    rintro _ m37 ⟨x39, rfl, hm38, h⟩
    refine ⟨_, rfl, ?_⟩
    refine r_aload_n (y := m3_doNext) dX3_doNext_215 rfl rfl ?_
    refine g_X3_12 (y := m3_doNext) rfl dX3_doNext_216 hm38 ?_
    refine r_iload_n (y := m3_doNext) dX3_doNext_219 rfl rfl ?_
    refine r_callVN (y := m3_doNext) (As := [(.int (mI m 26 (Int32.toNatClampNeg ((mI m 23 4) - 1))))]) (b := 13) (ci := 10) dX3_doNext_220 rfl k10_find lm_X3_123 rfl ⟨by decide, by decide⟩ (so_13 hm38) (by decide) rfl (Nat.le_of_ble_eq_true rfl) (C.mono h ?_)
    rintro _ m40 ⟨x42, rfl, hm41, h⟩
    refine ⟨_, rfl, ?_⟩
    refine r_iload (y := m3_doNext) dX3_doNext_223 rfl ?_
    refine r_callV (y := m3_doNext) (As := [(.int x39), (.int x42), (.int (mI m 27 (Int32.toNatClampNeg ((mI m 23 4) - 1))))]) (b := 12) (ci := 3) dX3_doNext_225 rfl k3_ask lm_X3_151 rfl ⟨by decide, by decide⟩ (so_12 hm41) (by decide) rfl (Nat.le_of_ble_eq_true rfl) (C.mono h ?_)
    rintro _ m43 ⟨rfl, hm44, h⟩
    refine ⟨none, rfl, ?_⟩
    refine r_goto (y := m3_doNext) (tgt := 267) dX3_doNext_228 (by decide) ?_
    exact r_ret (y := m3_doNext) dX3_doNext_267 rfl h
  by_cases hc45 : (mI m 24 (Int32.toNatClampNeg ((mI m 23 4) - 1))) = 7
  · have h := h.2.2.2.2.2.2.2.1 hc45
    refine r_tableIn (y := m3_doNext) (x := (mI m 24 (Int32.toNatClampNeg ((mI m 23 4) - 1)))) (off := 173) (tgt := 231) dX3_doNext_58 (by rw [hc45]; decide) (by rw [hc45]; decide) (by rw [hc45]; rfl) (by decide) ?_
    refine r_aload_n (y := m3_doNext) dX3_doNext_231 rfl rfl ?_
    refine r_aload_n (y := m3_doNext) dX3_doNext_232 rfl rfl ?_
    refine g_X3_12 (y := m3_doNext) rfl dX3_doNext_233 (St.i hm) ?_
    refine g_X3_141 (y := m3_doNext) rfl dX3_doNext_236 (St.i hm) ?_
    refine r_iload_n (y := m3_doNext) dX3_doNext_239 rfl rfl ?_
    obtain ⟨hb46, h⟩ := h
    refine r_iald (y := m3_doNext) (n := 3500) dX3_doNext_240 (sa_19 (St.i hm)) hb46 ?_
    refine V.top (b := (mI m 19 (Int32.toNatClampNeg (mI m 25 (Int32.toNatClampNeg ((mI m 23 4) - 1)))))) (by first | rfl | simp [mI_set, mI_setR]) ?_
    refine r_callV (y := m3_doNext) (As := [(.int (mI m 19 (Int32.toNatClampNeg (mI m 25 (Int32.toNatClampNeg ((mI m 23 4) - 1))))))]) (b := 12) (ci := 3) dX3_doNext_241 rfl k3_fail lm_X3_154 rfl ⟨by decide, by decide⟩ (so_12 (St.i hm)) (by decide) rfl (Nat.le_of_ble_eq_true rfl) (C.mono h ?_)
    rintro _ m47 ⟨rfl, hm48, h⟩
    refine ⟨none, rfl, ?_⟩
    refine r_goto (y := m3_doNext) (tgt := 267) dX3_doNext_244 (by decide) ?_
    exact r_ret (y := m3_doNext) dX3_doNext_267 rfl h
  by_cases hc49 : (mI m 24 (Int32.toNatClampNeg ((mI m 23 4) - 1))) = 8
  · have h := h.2.2.2.2.2.2.2.2.1 hc49
    refine r_tableIn (y := m3_doNext) (x := (mI m 24 (Int32.toNatClampNeg ((mI m 23 4) - 1)))) (off := 189) (tgt := 247) dX3_doNext_58 (by rw [hc49]; decide) (by rw [hc49]; decide) (by rw [hc49]; rfl) (by decide) ?_
    refine r_aload_n (y := m3_doNext) dX3_doNext_247 rfl rfl ?_
    refine r_aload_n (y := m3_doNext) dX3_doNext_248 rfl rfl ?_
    refine g_X3_33 (y := m3_doNext) rfl dX3_doNext_249 (St.i hm) ?_
    refine r_aload_n (y := m3_doNext) dX3_doNext_252 rfl rfl ?_
    refine g_X3_48 (y := m3_doNext) rfl dX3_doNext_253 (St.i hm) ?_
    refine V.top (b := (mI m 12 9)) (by first | rfl | simp [mI_set, mI_setR]) ?_
    obtain ⟨hb50, h⟩ := h
    have hl51 := vp_lt hb50
    refine r_aald (y := m3_doNext) (n := 102) (r := some (235 + 3 * (Int32.toNatClampNeg (mI m 12 9)))) dX3_doNext_256 (sa_29 (St.i hm)) (by decide) (by decide) hb50 (sr_lv (St.i hm) hl51) ?_
    refine r_callV (y := m3_doNext) (As := [(.ref (235 + 3 * (Int32.toNatClampNeg (mI m 12 9))))]) (b := 12) (ci := 3) dX3_doNext_257 rfl k3_startRunWithin lm_X3_157 rfl ⟨by decide, by decide⟩ (so_12 (St.i hm)) (by decide) rfl (Nat.le_of_ble_eq_true rfl) (C.mono h ?_)
    rintro _ m52 ⟨rfl, hm53, h⟩
    refine ⟨none, rfl, ?_⟩
    refine r_goto (y := m3_doNext) (tgt := 267) dX3_doNext_260 (by decide) ?_
    exact r_ret (y := m3_doNext) dX3_doNext_267 rfl h
  have h := h.2.2.2.2.2.2.2.2.2 hc5 hc11 hc17 hc20 hc23 hc33 hc36 hc45 hc49
  have hc5 := lv_neT hc5 (a := 0) (by decide)
  have hc11 := lv_neT hc11 (a := 1) (by decide)
  have hc17 := lv_neT hc17 (a := 2) (by decide)
  have hc20 := lv_neT hc20 (a := 3) (by decide)
  have hc23 := lv_neT hc23 (a := 4) (by decide)
  have hc33 := lv_neT hc33 (a := 5) (by decide)
  have hc36 := lv_neT hc36 (a := 6) (by decide)
  have hc45 := lv_neT hc45 (a := 7) (by decide)
  have hc49 := lv_neT hc49 (a := 8) (by decide)
  refine r_tableOut (y := m3_doNext) (x := (mI m 24 (Int32.toNatClampNeg ((mI m 23 4) - 1)))) (tgt := 263) dX3_doNext_58 (by omega) (by decide) ?_
  refine r_aload_n (y := m3_doNext) dX3_doNext_263 rfl rfl ?_
  refine r_callV (y := m3_doNext) (As := []) (b := 12) (ci := 3) dX3_doNext_264 rfl k3_endRunWithin lm_X3_161 rfl ⟨by decide, by decide⟩ (so_12 (St.i hm)) (by decide) rfl (Nat.le_of_ble_eq_true rfl) (C.mono h ?_)
  rintro _ m54 ⟨rfl, hm55, h⟩
  refine ⟨none, rfl, ?_⟩
  exact r_ret (y := m3_doNext) dX3_doNext_267 rfl h
set_option maxHeartbeats 4000000 in
set_option maxRecDepth 100000 in
theorem w3_doStep {m : Mm} {K : Option Value ⊕ String → Mm → Prop} (hm : St m)   (h : (((mI m 12 11) < 100 → K (.inl (some (.int 1))) (mSetI m 12 11 ((mI m 12 11) + 1))) ∧ (¬ (mI m 12 11) < 100 → K (.inl (some (.int 0))) (mSetI m 12 12 3)))) : V m3_doStep 0 [some (.ref 12)] [] m K := by
  refine r_aload_n (y := m3_doStep) dX3_doStep_0 rfl rfl ?_
  refine g_X3_54 (y := m3_doStep) rfl dX3_doStep_1 hm ?_
  refine r_bipush (y := m3_doStep) (v := 100) dX3_doStep_4 (by decide) ?_
  refine r_icmp_lt (y := m3_doStep) (tgt := 16) dX3_doStep_6 (by decide) (fun hc1 => ?_) (fun hc1 => ?_)
  · have h := h.1 hc1
    refine r_aload_n (y := m3_doStep) dX3_doStep_16 rfl rfl ?_
    refine r_dup_r (y := m3_doStep) dX3_doStep_17 ?_
    refine g_X3_54 (y := m3_doStep) rfl dX3_doStep_18 hm ?_
    refine r_iconst (y := m3_doStep) (v := 1) dX3_doStep_21 (by decide) ?_
    refine r_iadd (y := m3_doStep) dX3_doStep_22 ?_
    refine p_X3_54 (y := m3_doStep) rfl dX3_doStep_23 hm ?_
    refine r_iconst (y := m3_doStep) (v := 1) dX3_doStep_26 (by decide) ?_
    exact r_iret (y := m3_doStep) (ty := .boolean) dX3_doStep_27 rfl (by decide) h
  · have h := h.2 hc1
    refine r_aload_n (y := m3_doStep) dX3_doStep_9 rfl rfl ?_
    refine r_iconst (y := m3_doStep) (v := 3) dX3_doStep_10 (by decide) ?_
    refine p_X3_57 (y := m3_doStep) rfl dX3_doStep_11 hm ?_
    refine r_iconst (y := m3_doStep) (v := 0) dX3_doStep_14 (by decide) ?_
    exact r_iret (y := m3_doStep) (ty := .boolean) dX3_doStep_15 rfl (by decide) h
set_option maxHeartbeats 4000000 in
set_option maxRecDepth 100000 in
theorem w3_decide {m : Mm} {K : Option Value ⊕ String → Mm → Prop} (hm : St m) {a0 : Int32} {a1 : Int32}  (h : vp_in a0 102 ∧ (((mI m (235 + 3 * (Int32.toNatClampNeg a0)) 3) < 40 → (((mI m (235 + 3 * (Int32.toNatClampNeg a0)) 3) < (mI m (235 + 3 * (Int32.toNatClampNeg a0)) 2) → vp_in (mI m (235 + 3 * (Int32.toNatClampNeg a0)) 3) 40 ∧ vp_in (mI m (235 + 3 * (Int32.toNatClampNeg a0)) 3) 40 ∧ K (.inl (some (.int (mI (mSetI (mSetI m (237 + 3 * (Int32.toNatClampNeg a0)) (Int32.toNatClampNeg (mI m (235 + 3 * (Int32.toNatClampNeg a0)) 3)) a1) (235 + 3 * (Int32.toNatClampNeg a0)) 3 ((mI m (235 + 3 * (Int32.toNatClampNeg a0)) 3) + 1)) (236 + 3 * (Int32.toNatClampNeg a0)) (Int32.toNatClampNeg (mI m (235 + 3 * (Int32.toNatClampNeg a0)) 3)))))) (mSetI (mSetI m (237 + 3 * (Int32.toNatClampNeg a0)) (Int32.toNatClampNeg (mI m (235 + 3 * (Int32.toNatClampNeg a0)) 3)) a1) (235 + 3 * (Int32.toNatClampNeg a0)) 3 ((mI m (235 + 3 * (Int32.toNatClampNeg a0)) 3) + 1))) ∧ (¬ (mI m (235 + 3 * (Int32.toNatClampNeg a0)) 3) < (mI m (235 + 3 * (Int32.toNatClampNeg a0)) 2) → ((¬ a0 = 0 → vp_in (mI m (235 + 3 * (Int32.toNatClampNeg a0)) 3) 40 ∧ vp_in (mI m (235 + 3 * (Int32.toNatClampNeg a0)) 3) 40 ∧ vp_in (mI m (235 + 3 * (Int32.toNatClampNeg a0)) 3) 40 ∧ K (.inl (some (.int (mI (mSetI (mSetI (mSetI m (236 + 3 * (Int32.toNatClampNeg a0)) (Int32.toNatClampNeg (mI m (235 + 3 * (Int32.toNatClampNeg a0)) 3)) 0) (237 + 3 * (Int32.toNatClampNeg a0)) (Int32.toNatClampNeg (mI m (235 + 3 * (Int32.toNatClampNeg a0)) 3)) a1) (235 + 3 * (Int32.toNatClampNeg a0)) 3 ((mI m (235 + 3 * (Int32.toNatClampNeg a0)) 3) + 1)) (236 + 3 * (Int32.toNatClampNeg a0)) (Int32.toNatClampNeg (mI m (235 + 3 * (Int32.toNatClampNeg a0)) 3)))))) (mSetI (mSetI (mSetI m (236 + 3 * (Int32.toNatClampNeg a0)) (Int32.toNatClampNeg (mI m (235 + 3 * (Int32.toNatClampNeg a0)) 3)) 0) (237 + 3 * (Int32.toNatClampNeg a0)) (Int32.toNatClampNeg (mI m (235 + 3 * (Int32.toNatClampNeg a0)) 3)) a1) (235 + 3 * (Int32.toNatClampNeg a0)) 3 ((mI m (235 + 3 * (Int32.toNatClampNeg a0)) 3) + 1))) ∧ (a0 = 0 → K (.inl (some (.int (-1)))) (mSetI (mSetI m 12 12 4) 12 13 a1)))))) ∧ (¬ (mI m (235 + 3 * (Int32.toNatClampNeg a0)) 3) < 40 → K (.inl (some (.int (-1)))) (mSetI m 12 12 3)))) : V m3_decide 0 [some (.ref 12), some (.int a0), some (.int a1), none, none] [] m K := by
  refine r_aload_n (y := m3_decide) dX3_decide_0 rfl rfl ?_
  refine g_X3_33 (y := m3_decide) rfl dX3_decide_1 hm ?_
  refine r_iload_n (y := m3_decide) dX3_decide_4 rfl rfl ?_
  obtain ⟨hb1, h⟩ := h
  have hl2 := vp_lt hb1
  refine r_aald (y := m3_decide) (n := 102) (r := some (235 + 3 * (Int32.toNatClampNeg a0))) dX3_decide_5 (sa_29 hm) (by decide) (by decide) hb1 (sr_lv hm hl2) ?_
  refine r_astore_n (y := m3_decide) (L' := [some (.ref 12), some (.int a0), some (.int a1), some (.ref (235 + 3 * (Int32.toNatClampNeg a0))), none]) dX3_decide_6 rfl (Nat.le_of_ble_eq_true rfl) rfl ?_
  refine r_aload_n (y := m3_decide) dX3_decide_7 rfl rfl ?_
  refine g_X3_105 (y := m3_decide) (i := (Int32.toNatClampNeg a0)) rfl dX3_decide_8 hm hl2 ?_
  refine r_istore (y := m3_decide) (L' := [some (.ref 12), some (.int a0), some (.int a1), some (.ref (235 + 3 * (Int32.toNatClampNeg a0))), some (.int (mI m (235 + 3 * (Int32.toNatClampNeg a0)) 3))]) dX3_decide_11 (Nat.le_of_ble_eq_true rfl) rfl ?_
  refine r_iload (y := m3_decide) dX3_decide_13 rfl ?_
  refine r_bipush (y := m3_decide) (v := 40) dX3_decide_15 (by decide) ?_
  refine r_icmp_lt (y := m3_decide) (tgt := 27) dX3_decide_17 (by decide) (fun hc3 => ?_) (fun hc3 => ?_)
  · have h := h.1 hc3
    refine r_iload (y := m3_decide) dX3_decide_27 rfl ?_
    refine r_aload_n (y := m3_decide) dX3_decide_29 rfl rfl ?_
    refine g_X3_164 (y := m3_decide) (i := (Int32.toNatClampNeg a0)) rfl dX3_decide_30 hm hl2 ?_
    refine r_icmp_lt (y := m3_decide) (tgt := 60) dX3_decide_33 (by decide) (fun hc4 => ?_) (fun hc4 => ?_)
    · have h := h.1 hc4
      refine r_aload_n (y := m3_decide) dX3_decide_60 rfl rfl ?_
      refine g_X3_170 (y := m3_decide) (i := (Int32.toNatClampNeg a0)) rfl dX3_decide_61 hm hl2 ?_
      refine r_iload (y := m3_decide) dX3_decide_64 rfl ?_
      refine r_iload_n (y := m3_decide) dX3_decide_66 rfl rfl ?_
      obtain ⟨hb5, h⟩ := h
      refine r_iast (y := m3_decide) (n := 40) dX3_decide_67 (sa_ll hm hl2) hb5 ?_
      refine r_aload_n (y := m3_decide) dX3_decide_68 rfl rfl ?_
      refine r_iload (y := m3_decide) dX3_decide_69 rfl ?_
      refine r_iconst (y := m3_decide) (v := 1) dX3_decide_71 (by decide) ?_
      refine r_iadd (y := m3_decide) dX3_decide_72 ?_
      refine p_X3_105 (y := m3_decide) (i := (Int32.toNatClampNeg a0)) rfl dX3_decide_73 (St.i hm) hl2 ?_
      refine r_aload_n (y := m3_decide) dX3_decide_76 rfl rfl ?_
      refine g_X3_167 (y := m3_decide) (i := (Int32.toNatClampNeg a0)) rfl dX3_decide_77 (St.i (St.i hm)) hl2 ?_
      refine r_iload (y := m3_decide) dX3_decide_80 rfl ?_
      obtain ⟨hb6, h⟩ := h
      refine r_iald (y := m3_decide) (n := 40) dX3_decide_82 (sa_lw (St.i (St.i hm)) hl2) hb6 ?_
      exact r_iret (y := m3_decide) dX3_decide_83 rfl rfl h
    · have h := h.2 hc4
      refine r_iload_n (y := m3_decide) dX3_decide_36 rfl rfl ?_
      refine r_if_ne (y := m3_decide) (tgt := 52) dX3_decide_37 (by decide) (fun hc7 => ?_) (fun hc7 => ?_)
      · have h := h.1 hc7
        refine r_aload_n (y := m3_decide) dX3_decide_52 rfl rfl ?_
        refine g_X3_167 (y := m3_decide) (i := (Int32.toNatClampNeg a0)) rfl dX3_decide_53 hm hl2 ?_
        refine r_iload (y := m3_decide) dX3_decide_56 rfl ?_
        refine r_iconst (y := m3_decide) (v := 0) dX3_decide_58 (by decide) ?_
        obtain ⟨hb8, h⟩ := h
        refine r_iast (y := m3_decide) (n := 40) dX3_decide_59 (sa_lw hm hl2) hb8 ?_
        refine r_aload_n (y := m3_decide) dX3_decide_60 rfl rfl ?_
        refine g_X3_170 (y := m3_decide) (i := (Int32.toNatClampNeg a0)) rfl dX3_decide_61 (St.i hm) hl2 ?_
        refine r_iload (y := m3_decide) dX3_decide_64 rfl ?_
        refine r_iload_n (y := m3_decide) dX3_decide_66 rfl rfl ?_
        obtain ⟨hb9, h⟩ := h
        refine r_iast (y := m3_decide) (n := 40) dX3_decide_67 (sa_ll (St.i hm) hl2) hb9 ?_
        refine r_aload_n (y := m3_decide) dX3_decide_68 rfl rfl ?_
        refine r_iload (y := m3_decide) dX3_decide_69 rfl ?_
        refine r_iconst (y := m3_decide) (v := 1) dX3_decide_71 (by decide) ?_
        refine r_iadd (y := m3_decide) dX3_decide_72 ?_
        refine p_X3_105 (y := m3_decide) (i := (Int32.toNatClampNeg a0)) rfl dX3_decide_73 (St.i (St.i hm)) hl2 ?_
        refine r_aload_n (y := m3_decide) dX3_decide_76 rfl rfl ?_
        refine g_X3_167 (y := m3_decide) (i := (Int32.toNatClampNeg a0)) rfl dX3_decide_77 (St.i (St.i (St.i hm))) hl2 ?_
        refine r_iload (y := m3_decide) dX3_decide_80 rfl ?_
        obtain ⟨hb10, h⟩ := h
        refine r_iald (y := m3_decide) (n := 40) dX3_decide_82 (sa_lw (St.i (St.i (St.i hm))) hl2) hb10 ?_
        exact r_iret (y := m3_decide) dX3_decide_83 rfl rfl h
      · have h := h.2 hc7
        refine r_aload_n (y := m3_decide) dX3_decide_40 rfl rfl ?_
        refine r_iconst (y := m3_decide) (v := 4) dX3_decide_41 (by decide) ?_
        refine p_X3_57 (y := m3_decide) rfl dX3_decide_42 hm ?_
        refine r_aload_n (y := m3_decide) dX3_decide_45 rfl rfl ?_
        refine r_iload_n (y := m3_decide) dX3_decide_46 rfl rfl ?_
        refine p_X3_60 (y := m3_decide) rfl dX3_decide_47 (St.i hm) ?_
        refine r_iconst (y := m3_decide) (v := (-1)) dX3_decide_50 (by decide) ?_
        exact r_iret (y := m3_decide) dX3_decide_51 rfl rfl h
  · have h := h.2 hc3
    refine r_aload_n (y := m3_decide) dX3_decide_20 rfl rfl ?_
    refine r_iconst (y := m3_decide) (v := 3) dX3_decide_21 (by decide) ?_
    refine p_X3_57 (y := m3_decide) rfl dX3_decide_22 hm ?_
    refine r_iconst (y := m3_decide) (v := (-1)) dX3_decide_25 (by decide) ?_
    exact r_iret (y := m3_decide) dX3_decide_26 rfl rfl h
set_option maxHeartbeats 4000000 in
set_option maxRecDepth 100000 in
theorem w3_fail {m : Mm} {K : Option Value ⊕ String → Mm → Prop} (hm : St m) {a0 : Int32}  (h : ((¬ a0 = 0 → vp_in a0 102 ∧ C m2_advance [(.ref (235 + 3 * (Int32.toNatClampNeg a0)))] (mSetI (mSetI m 23 4 (mI m (235 + 3 * (Int32.toNatClampNeg a0)) 7)) 12 9 a0) (fun o m4 => ∃ x6 : Int32, o = .inl (some (.int x6)) ∧ St m4 ∧ ((¬ x6 = 0 → (((mI m4 (235 + 3 * (Int32.toNatClampNeg a0)) 6) < 20 → C m9_push [(.ref 23), (.int 8), (.int (-1)), (.int (-1)), (.int (-1))] m4 (fun o m9 => o = .inl none ∧ St m9 ∧ K (.inl none) m9)) ∧ (¬ (mI m4 (235 + 3 * (Int32.toNatClampNeg a0)) 6) < 20 → K (.inl none) (mSetI m4 12 12 3)))) ∧ (x6 = 0 → C m10_becomeData [(.ref 13), (.int (mI m4 (235 + 3 * (Int32.toNatClampNeg a0)) 5)), (.int 0), (.int (-1)), (.int (-1))] m4 (fun o m11 => o = .inl none ∧ St m11 ∧ K (.inl none) (mSetI m11 12 9 (a0 - 1))))))) ∧ (a0 = 0 → K (.inl none) (mSetI m 12 12 1)))) : V m3_fail 0 [some (.ref 12), some (.int a0), none] [] m K := by
  refine r_iload_n (y := m3_fail) dX3_fail_0 rfl rfl ?_
  refine r_if_ne (y := m3_fail) (tgt := 10) dX3_fail_1 (by decide) (fun hc1 => ?_) (fun hc1 => ?_)
  · have h := h.1 hc1
    refine r_aload_n (y := m3_fail) dX3_fail_10 rfl rfl ?_
    refine g_X3_33 (y := m3_fail) rfl dX3_fail_11 hm ?_
    refine r_iload_n (y := m3_fail) dX3_fail_14 rfl rfl ?_
    obtain ⟨hb2, h⟩ := h
    have hl3 := vp_lt hb2
    refine r_aald (y := m3_fail) (n := 102) (r := some (235 + 3 * (Int32.toNatClampNeg a0))) dX3_fail_15 (sa_29 hm) (by decide) (by decide) hb2 (sr_lv hm hl3) ?_
    refine r_astore_n (y := m3_fail) (L' := [some (.ref 12), some (.int a0), some (.ref (235 + 3 * (Int32.toNatClampNeg a0)))]) dX3_fail_16 rfl (Nat.le_of_ble_eq_true rfl) rfl ?_
    refine r_aload_n (y := m3_fail) dX3_fail_17 rfl rfl ?_
    refine g_X3_21 (y := m3_fail) rfl dX3_fail_18 hm ?_
    refine r_aload_n (y := m3_fail) dX3_fail_21 rfl rfl ?_
    refine g_X3_173 (y := m3_fail) (i := (Int32.toNatClampNeg a0)) rfl dX3_fail_22 hm hl3 ?_
    refine p_X3_97 (y := m3_fail) rfl dX3_fail_25 hm ?_
    refine r_aload_n (y := m3_fail) dX3_fail_28 rfl rfl ?_
    refine r_iload_n (y := m3_fail) dX3_fail_29 rfl rfl ?_
    refine p_X3_48 (y := m3_fail) rfl dX3_fail_30 (St.i hm) ?_
    refine r_aload_n (y := m3_fail) dX3_fail_33 rfl rfl ?_
    refine r_callVN (y := m3_fail) (As := []) (b := (235 + 3 * (Int32.toNatClampNeg a0))) (ci := 2) dX3_fail_34 rfl k2_advance lm_X3_176 rfl ⟨by decide, by decide⟩ (so_lv (St.i (St.i hm)) hl3) (by decide) rfl (Nat.le_of_ble_eq_true rfl) (C.mono h ?_)
    rintro _ m4 ⟨x6, rfl, hm5, h⟩
    refine ⟨_, rfl, ?_⟩
    refine r_if_ne (y := m3_fail) (tgt := 64) dX3_fail_37 (by decide) (fun hc7 => ?_) (fun hc7 => ?_)
    · have h := h.1 hc7
      refine r_aload_n (y := m3_fail) dX3_fail_64 rfl rfl ?_
      refine g_X3_183 (y := m3_fail) (i := (Int32.toNatClampNeg a0)) rfl dX3_fail_65 hm5 hl3 ?_
      refine r_bipush (y := m3_fail) (v := 20) dX3_fail_68 (by decide) ?_
      refine r_icmp_lt (y := m3_fail) (tgt := 81) dX3_fail_70 (by decide) (fun hc8 => ?_) (fun hc8 => ?_)
      · have h := h.1 hc8
        refine r_aload_n (y := m3_fail) dX3_fail_81 rfl rfl ?_
        refine g_X3_21 (y := m3_fail) rfl dX3_fail_82 hm5 ?_
        refine r_bipush (y := m3_fail) (v := 8) dX3_fail_85 (by decide) ?_
        refine r_iconst (y := m3_fail) (v := (-1)) dX3_fail_87 (by decide) ?_
        refine r_iconst (y := m3_fail) (v := (-1)) dX3_fail_88 (by decide) ?_
        refine r_iconst (y := m3_fail) (v := (-1)) dX3_fail_89 (by decide) ?_
        refine r_callVN (y := m3_fail) (As := [(.int 8), (.int (-1)), (.int (-1)), (.int (-1))]) (b := 23) (ci := 9) dX3_fail_90 rfl k9_push lm_X3_186 rfl ⟨by decide, by decide⟩ (so_23 hm5) (by decide) rfl (Nat.le_of_ble_eq_true rfl) (C.mono h ?_)
        rintro _ m9 ⟨rfl, hm10, h⟩
        refine ⟨none, rfl, ?_⟩
        exact r_ret (y := m3_fail) dX3_fail_93 rfl h
      · have h := h.2 hc8
        refine r_aload_n (y := m3_fail) dX3_fail_73 rfl rfl ?_
        refine r_iconst (y := m3_fail) (v := 3) dX3_fail_74 (by decide) ?_
        refine p_X3_57 (y := m3_fail) rfl dX3_fail_75 hm5 ?_
        refine r_goto (y := m3_fail) (tgt := 93) dX3_fail_78 (by decide) ?_
        exact r_ret (y := m3_fail) dX3_fail_93 rfl h
    · have h := h.2 hc7
      refine r_aload_n (y := m3_fail) dX3_fail_40 rfl rfl ?_
      refine g_X3_12 (y := m3_fail) rfl dX3_fail_41 hm5 ?_
      refine r_aload_n (y := m3_fail) dX3_fail_44 rfl rfl ?_
      refine g_X3_180 (y := m3_fail) (i := (Int32.toNatClampNeg a0)) rfl dX3_fail_45 hm5 hl3 ?_
      refine r_iconst (y := m3_fail) (v := 0) dX3_fail_48 (by decide) ?_
      refine r_iconst (y := m3_fail) (v := (-1)) dX3_fail_49 (by decide) ?_
      refine r_iconst (y := m3_fail) (v := (-1)) dX3_fail_50 (by decide) ?_
      refine r_callVN (y := m3_fail) (As := [(.int (mI m4 (235 + 3 * (Int32.toNatClampNeg a0)) 5)), (.int 0), (.int (-1)), (.int (-1))]) (b := 13) (ci := 10) dX3_fail_51 rfl k10_becomeData lm_X3_148 rfl ⟨by decide, by decide⟩ (so_13 hm5) (by decide) rfl (Nat.le_of_ble_eq_true rfl) (C.mono h ?_)
      rintro _ m11 ⟨rfl, hm12, h⟩
      refine ⟨none, rfl, ?_⟩
      refine r_aload_n (y := m3_fail) dX3_fail_54 rfl rfl ?_
      refine r_iload_n (y := m3_fail) dX3_fail_55 rfl rfl ?_
      refine r_iconst (y := m3_fail) (v := 1) dX3_fail_56 (by decide) ?_
      refine r_isub (y := m3_fail) dX3_fail_57 ?_
      refine p_X3_48 (y := m3_fail) rfl dX3_fail_58 hm12 ?_
      refine r_goto (y := m3_fail) (tgt := 93) dX3_fail_61 (by decide) ?_
      exact r_ret (y := m3_fail) dX3_fail_93 rfl h
  · have h := h.2 hc1
    refine r_aload_n (y := m3_fail) dX3_fail_4 rfl rfl ?_
    refine r_iconst (y := m3_fail) (v := 1) dX3_fail_5 (by decide) ?_
    refine p_X3_57 (y := m3_fail) rfl dX3_fail_6 hm ?_
    exact r_ret (y := m3_fail) dX3_fail_9 rfl h
set_option maxHeartbeats 4000000 in
set_option maxRecDepth 100000 in
theorem w3_openScope {m : Mm} {K : Option Value ⊕ String → Mm → Prop} (hm : St m) {e0 ne0 : Nat} {e1 ne1 : Nat} {e2 ne2 : Nat} (he0 : isExp m e0 ne0) (he1 : isExp m e1 ne1) (he2 : isExp m e2 ne2) (h : ((102 ≤ (mI m 12 8) → vp_in 101 102 ∧ C m7_open [(.ref (31 + 2 * 101)), (.ref e0), (.ref e1), (.ref e2)] m (fun o m4 => o = .inl none ∧ St m4 ∧ K (.inl (some (.int 101))) (mSetI m4 12 8 (101 + 1)))) ∧ (¬ 102 ≤ (mI m 12 8) → vp_in (mI m 12 8) 102 ∧ C m7_open [(.ref (31 + 2 * (Int32.toNatClampNeg (mI m 12 8)))), (.ref e0), (.ref e1), (.ref e2)] m (fun o m8 => o = .inl none ∧ St m8 ∧ K (.inl (some (.int (mI m 12 8)))) (mSetI m8 12 8 ((mI m 12 8) + 1)))))) : V m3_openScope 0 [some (.ref 12), some (.ref e0), some (.ref e1), some (.ref e2), none] [] m K := by
  refine r_aload_n (y := m3_openScope) dX3_openScope_0 rfl rfl ?_
  refine g_X3_45 (y := m3_openScope) rfl dX3_openScope_1 hm ?_
  refine r_bipush (y := m3_openScope) (v := 102) dX3_openScope_4 (by decide) ?_
  refine r_icmp_ge (y := m3_openScope) (tgt := 16) dX3_openScope_6 (by decide) (fun hc1 => ?_) (fun hc1 => ?_)
  · have h := h.1 hc1
    refine r_bipush (y := m3_openScope) (v := 101) dX3_openScope_16 (by decide) ?_
    refine r_istore (y := m3_openScope) (L' := [some (.ref 12), some (.ref e0), some (.ref e1), some (.ref e2), some (.int 101)]) dX3_openScope_18 (Nat.le_of_ble_eq_true rfl) rfl ?_
    refine r_aload_n (y := m3_openScope) dX3_openScope_20 rfl rfl ?_
    refine g_X3_27 (y := m3_openScope) rfl dX3_openScope_21 hm ?_
    refine r_iload (y := m3_openScope) dX3_openScope_24 rfl ?_
    obtain ⟨hb2, h⟩ := h
    have hl3 := vp_lt hb2
    refine r_aald (y := m3_openScope) (n := 102) (r := some (31 + 2 * 101)) dX3_openScope_26 (sa_28 hm) (by decide) (by decide) hb2 (sr_sc hm hl3) ?_
    refine r_aload_n (y := m3_openScope) dX3_openScope_27 rfl rfl ?_
    refine r_aload_n (y := m3_openScope) dX3_openScope_28 rfl rfl ?_
    refine r_aload_n (y := m3_openScope) dX3_openScope_29 rfl rfl ?_
    refine r_callVN (y := m3_openScope) (As := [(.ref e0), (.ref e1), (.ref e2)]) (b := (31 + 2 * 101)) (ci := 7) dX3_openScope_30 rfl k7_open lm_X3_188 rfl ⟨by decide, by decide⟩ (so_sc hm hl3) (by decide) rfl (Nat.le_of_ble_eq_true rfl) (C.mono h ?_)
    rintro _ m4 ⟨rfl, hm5, h⟩
    refine ⟨none, rfl, ?_⟩
    refine r_aload_n (y := m3_openScope) dX3_openScope_33 rfl rfl ?_
    refine r_iload (y := m3_openScope) dX3_openScope_34 rfl ?_
    refine r_iconst (y := m3_openScope) (v := 1) dX3_openScope_36 (by decide) ?_
    refine r_iadd (y := m3_openScope) dX3_openScope_37 ?_
    refine p_X3_45 (y := m3_openScope) rfl dX3_openScope_38 hm5 ?_
    refine r_iload (y := m3_openScope) dX3_openScope_41 rfl ?_
    exact r_iret (y := m3_openScope) dX3_openScope_43 rfl rfl h
  · have h := h.2 hc1
    refine r_aload_n (y := m3_openScope) dX3_openScope_9 rfl rfl ?_
    refine g_X3_45 (y := m3_openScope) rfl dX3_openScope_10 hm ?_
    refine r_goto (y := m3_openScope) (tgt := 18) dX3_openScope_13 (by decide) ?_
    refine r_istore (y := m3_openScope) (L' := [some (.ref 12), some (.ref e0), some (.ref e1), some (.ref e2), some (.int (mI m 12 8))]) dX3_openScope_18 (Nat.le_of_ble_eq_true rfl) rfl ?_
    refine r_aload_n (y := m3_openScope) dX3_openScope_20 rfl rfl ?_
    refine g_X3_27 (y := m3_openScope) rfl dX3_openScope_21 hm ?_
    refine r_iload (y := m3_openScope) dX3_openScope_24 rfl ?_
    obtain ⟨hb6, h⟩ := h
    have hl7 := vp_lt hb6
    refine r_aald (y := m3_openScope) (n := 102) (r := some (31 + 2 * (Int32.toNatClampNeg (mI m 12 8)))) dX3_openScope_26 (sa_28 hm) (by decide) (by decide) hb6 (sr_sc hm hl7) ?_
    refine r_aload_n (y := m3_openScope) dX3_openScope_27 rfl rfl ?_
    refine r_aload_n (y := m3_openScope) dX3_openScope_28 rfl rfl ?_
    refine r_aload_n (y := m3_openScope) dX3_openScope_29 rfl rfl ?_
    refine r_callVN (y := m3_openScope) (As := [(.ref e0), (.ref e1), (.ref e2)]) (b := (31 + 2 * (Int32.toNatClampNeg (mI m 12 8)))) (ci := 7) dX3_openScope_30 rfl k7_open lm_X3_188 rfl ⟨by decide, by decide⟩ (so_sc hm hl7) (by decide) rfl (Nat.le_of_ble_eq_true rfl) (C.mono h ?_)
    rintro _ m8 ⟨rfl, hm9, h⟩
    refine ⟨none, rfl, ?_⟩
    refine r_aload_n (y := m3_openScope) dX3_openScope_33 rfl rfl ?_
    refine r_iload (y := m3_openScope) dX3_openScope_34 rfl ?_
    refine r_iconst (y := m3_openScope) (v := 1) dX3_openScope_36 (by decide) ?_
    refine r_iadd (y := m3_openScope) dX3_openScope_37 ?_
    refine p_X3_45 (y := m3_openScope) rfl dX3_openScope_38 hm9 ?_
    refine r_iload (y := m3_openScope) dX3_openScope_41 rfl ?_
    exact r_iret (y := m3_openScope) dX3_openScope_43 rfl rfl h
set_option maxHeartbeats 4000000 in
set_option maxRecDepth 100000 in
theorem w3_openNames {m : Mm} {K : Option Value ⊕ String → Mm → Prop} (hm : St m) {a0 : Int32} {a1 : Int32}  (h : vp_in a0 102 ∧ vp_in a0 102 ∧ ∃ q5 : Nat, mR m (31 + 2 * (Int32.toNatClampNeg a0)) 3 = some q5 ∧ V m3_openNames 24 [some (.ref 12), some (.int a0), some (.int a1), some (.ref (32 + 2 * (Int32.toNatClampNeg a0))), some (.ref q5), some (.int 0)] [] m K) : V m3_openNames 0 [some (.ref 12), some (.int a0), some (.int a1), none, none, none] [] m K := by
  refine r_aload_n (y := m3_openNames) dX3_openNames_0 rfl rfl ?_
  refine g_X3_27 (y := m3_openNames) rfl dX3_openNames_1 hm ?_
  refine r_iload_n (y := m3_openNames) dX3_openNames_4 rfl rfl ?_
  obtain ⟨hb1, h⟩ := h
  have hl2 := vp_lt hb1
  refine r_aald (y := m3_openNames) (n := 102) (r := some (31 + 2 * (Int32.toNatClampNeg a0))) dX3_openNames_5 (sa_28 hm) (by decide) (by decide) hb1 (sr_sc hm hl2) ?_
  refine g_X3_192 (y := m3_openNames) (i := (Int32.toNatClampNeg a0)) rfl dX3_openNames_6 hm hl2 ?_
  refine r_astore_n (y := m3_openNames) (L' := [some (.ref 12), some (.int a0), some (.int a1), some (.ref (32 + 2 * (Int32.toNatClampNeg a0))), none, none]) dX3_openNames_9 rfl (Nat.le_of_ble_eq_true rfl) rfl ?_
  refine r_aload_n (y := m3_openNames) dX3_openNames_10 rfl rfl ?_
  refine g_X3_27 (y := m3_openNames) rfl dX3_openNames_11 hm ?_
  refine r_iload_n (y := m3_openNames) dX3_openNames_14 rfl rfl ?_
  obtain ⟨hb3, h⟩ := h
  have hl4 := vp_lt hb3
  refine r_aald (y := m3_openNames) (n := 102) (r := some (31 + 2 * (Int32.toNatClampNeg a0))) dX3_openNames_15 (sa_28 hm) (by decide) (by decide) hb3 (sr_sc hm hl4) ?_
  obtain ⟨q5, hq6, h⟩ := h
  refine g_X3_195 (y := m3_openNames) (i := (Int32.toNatClampNeg a0)) rfl dX3_openNames_16 hm hl4 (q := some q5) hq6 ?_
  refine r_astore (y := m3_openNames) (L' := [some (.ref 12), some (.int a0), some (.int a1), some (.ref (32 + 2 * (Int32.toNatClampNeg a0))), some (.ref q5), none]) dX3_openNames_19 (Nat.le_of_ble_eq_true rfl) rfl ?_
  refine r_iconst (y := m3_openNames) (v := 0) dX3_openNames_21 (by decide) ?_
  refine r_istore (y := m3_openNames) (L' := [some (.ref 12), some (.int a0), some (.int a1), some (.ref (32 + 2 * (Int32.toNatClampNeg a0))), some (.ref q5), some (.int 0)]) dX3_openNames_22 (Nat.le_of_ble_eq_true rfl) rfl ?_
  exact h
set_option maxHeartbeats 4000000 in
set_option maxRecDepth 100000 in
theorem w3_openNames_24 {m : Mm} {K : Option Value ⊕ String → Mm → Prop} (hm : St m) {v1 : Int32} {v2 : Int32} {ee3 nn3 : Nat} {ee4 nn4 : Nat} {v5 : Int32} (hee3 : mS m ee3 = (13, nn3)) (hee4 : isExp m ee4 nn4) (h : (((mI m ee4 0) ≤ v5 → K (.inl none) m) ∧ (¬ (mI m ee4 0) ≤ v5 → vp_in v5 nn4 ∧ ((¬ (mI m (ee4 + 1) (Int32.toNatClampNeg v5)) = 0 → V m3_openNames 24 [some (.ref 12), some (.int v1), some (.int v2), some (.ref ee3), some (.ref ee4), some (.int (v5 + 1))] [] m K) ∧ ((mI m (ee4 + 1) (Int32.toNatClampNeg v5)) = 0 → vp_in v5 nn4 ∧ vp_in (mI m (ee4 + 2) (Int32.toNatClampNeg v5)) nn3 ∧ ((¬ (mI m ee3 (Int32.toNatClampNeg (mI m (ee4 + 2) (Int32.toNatClampNeg v5)))) = (-1) → V m3_openNames 24 [some (.ref 12), some (.int v1), some (.int v2), some (.ref ee3), some (.ref ee4), some (.int (v5 + 1))] [] m K) ∧ ((mI m ee3 (Int32.toNatClampNeg (mI m (ee4 + 2) (Int32.toNatClampNeg v5)))) = (-1) → vp_in v5 nn4 ∧ C m10_addOpen [(.ref 13), (.int v2)] m (fun o m8 => ∃ x10 : Int32, o = .inl (some (.int x10)) ∧ St m8 ∧ mS m8 ee3 = (13, nn3) ∧ vp_in (mI m (ee4 + 2) (Int32.toNatClampNeg v5)) nn3 ∧ V m3_openNames 24 [some (.ref 12), some (.int v1), some (.int v2), some (.ref ee3), some (.ref ee4), some (.int (v5 + 1))] [] (mSetI m8 ee3 (Int32.toNatClampNeg (mI m (ee4 + 2) (Int32.toNatClampNeg v5))) x10) K)))))))) : V m3_openNames 24 [some (.ref 12), some (.int v1), some (.int v2), some (.ref ee3), some (.ref ee4), some (.int v5)] [] m K := by
  refine r_iload (y := m3_openNames) dX3_openNames_24 rfl ?_
  refine r_aload (y := m3_openNames) dX3_openNames_26 rfl ?_
  refine g_X3_84 (y := m3_openNames) rfl dX3_openNames_28 hee4 ?_
  refine r_icmp_ge (y := m3_openNames) (tgt := 83) dX3_openNames_31 (by decide) (fun hc1 => ?_) (fun hc1 => ?_)
  · have h := h.1 hc1
    exact r_ret (y := m3_openNames) dX3_openNames_83 rfl h
  · have h := h.2 hc1
    refine r_aload (y := m3_openNames) dX3_openNames_34 rfl ?_
    refine g_X3_199 (y := m3_openNames) rfl dX3_openNames_36 hee4 ?_
    refine r_iload (y := m3_openNames) dX3_openNames_39 rfl ?_
    obtain ⟨hb2, h⟩ := h
    refine r_iald (y := m3_openNames) (n := nn4) dX3_openNames_41 (hee4.2 1 (by decide) (by decide)).2 hb2 ?_
    refine r_if_ne (y := m3_openNames) (tgt := 77) dX3_openNames_42 (by decide) (fun hc3 => ?_) (fun hc3 => ?_)
    · have h := h.1 hc3
      refine r_iinc (y := m3_openNames) (v := (v5 + 1)) (L' := [some (.ref 12), some (.int v1), some (.int v2), some (.ref ee3), some (.ref ee4), some (.int (v5 + 1))]) dX3_openNames_77 rfl (by rfl) rfl ?_
      refine r_goto (y := m3_openNames) (tgt := 24) dX3_openNames_80 (by decide) ?_
      exact h
    · have h := h.2 hc3
      refine r_aload_n (y := m3_openNames) dX3_openNames_45 rfl rfl ?_
      refine r_aload (y := m3_openNames) dX3_openNames_46 rfl ?_
      refine g_X3_202 (y := m3_openNames) rfl dX3_openNames_48 hee4 ?_
      refine r_iload (y := m3_openNames) dX3_openNames_51 rfl ?_
      obtain ⟨hb4, h⟩ := h
      refine r_iald (y := m3_openNames) (n := nn4) dX3_openNames_53 (hee4.2 2 (by decide) (by decide)).2 hb4 ?_
      obtain ⟨hb5, h⟩ := h
      refine r_iald (y := m3_openNames) (n := nn3) dX3_openNames_54 hee3 hb5 ?_
      refine r_iconst (y := m3_openNames) (v := (-1)) dX3_openNames_55 (by decide) ?_
      refine r_icmp_ne (y := m3_openNames) (tgt := 77) dX3_openNames_56 (by decide) (fun hc6 => ?_) (fun hc6 => ?_)
      · have h := h.1 hc6
        refine r_iinc (y := m3_openNames) (v := (v5 + 1)) (L' := [some (.ref 12), some (.int v1), some (.int v2), some (.ref ee3), some (.ref ee4), some (.int (v5 + 1))]) dX3_openNames_77 rfl (by rfl) rfl ?_
        refine r_goto (y := m3_openNames) (tgt := 24) dX3_openNames_80 (by decide) ?_
        exact h
      · have h := h.2 hc6
        refine r_aload_n (y := m3_openNames) dX3_openNames_59 rfl rfl ?_
        refine r_aload (y := m3_openNames) dX3_openNames_60 rfl ?_
        refine g_X3_202 (y := m3_openNames) rfl dX3_openNames_62 hee4 ?_
        refine r_iload (y := m3_openNames) dX3_openNames_65 rfl ?_
        obtain ⟨hb7, h⟩ := h
        refine r_iald (y := m3_openNames) (n := nn4) dX3_openNames_67 (hee4.2 2 (by decide) (by decide)).2 hb7 ?_
        refine r_aload_n (y := m3_openNames) dX3_openNames_68 rfl rfl ?_
        refine g_X3_12 (y := m3_openNames) rfl dX3_openNames_69 hm ?_
        refine r_iload_n (y := m3_openNames) dX3_openNames_72 rfl rfl ?_
        refine r_callVN (y := m3_openNames) (As := [(.int v2)]) (b := 13) (ci := 10) dX3_openNames_73 rfl k10_addOpen lm_X3_205 rfl ⟨by decide, by decide⟩ (so_13 hm) (by decide) rfl (Nat.le_of_ble_eq_true rfl) (C.mono h ?_)
        rintro _ m8 ⟨x10, rfl, hm9, h⟩
        refine ⟨_, rfl, ?_⟩
        obtain ⟨hx11, h⟩ := h
        obtain ⟨hb12, h⟩ := h
        refine r_iast (y := m3_openNames) (n := nn3) dX3_openNames_76 hx11 hb12 ?_
        refine r_iinc (y := m3_openNames) (v := (v5 + 1)) (L' := [some (.ref 12), some (.int v1), some (.int v2), some (.ref ee3), some (.ref ee4), some (.int (v5 + 1))]) dX3_openNames_77 rfl (by rfl) rfl ?_
        refine r_goto (y := m3_openNames) (tgt := 24) dX3_openNames_80 (by decide) ?_
        exact h
set_option maxHeartbeats 4000000 in
set_option maxRecDepth 100000 in
theorem w3_makeThings {m : Mm} {K : Option Value ⊕ String → Mm → Prop} (hm : St m) {e0 ne0 : Nat} {a1 : Int32} {a2 : Int32} {a3 : Int32} (he0 : isExp m e0 ne0) (h : vp_in a1 ne0 ∧ vp_in a1 ne0 ∧ V m3_makeThings 16 [some (.ref 12), some (.ref e0), some (.int a1), some (.int a2), some (.int a3), some (.int (mI m (e0 + 6) (Int32.toNatClampNeg a1))), some (.int (mI m (e0 + 5) (Int32.toNatClampNeg a1)))] [] m K) : V m3_makeThings 0 [some (.ref 12), some (.ref e0), some (.int a1), some (.int a2), some (.int a3), none, none] [] m K := by
  refine r_aload_n (y := m3_makeThings) dX3_makeThings_0 rfl rfl ?_
  refine g_X3_208 (y := m3_makeThings) rfl dX3_makeThings_1 he0 ?_
  refine r_iload_n (y := m3_makeThings) dX3_makeThings_4 rfl rfl ?_
  obtain ⟨hb1, h⟩ := h
  refine r_iald (y := m3_makeThings) (n := ne0) dX3_makeThings_5 (he0.2 6 (by decide) (by decide)).2 hb1 ?_
  refine r_istore (y := m3_makeThings) (L' := [some (.ref 12), some (.ref e0), some (.int a1), some (.int a2), some (.int a3), some (.int (mI m (e0 + 6) (Int32.toNatClampNeg a1))), none]) dX3_makeThings_6 (Nat.le_of_ble_eq_true rfl) rfl ?_
  refine r_aload_n (y := m3_makeThings) dX3_makeThings_8 rfl rfl ?_
  refine g_X3_211 (y := m3_makeThings) rfl dX3_makeThings_9 he0 ?_
  refine r_iload_n (y := m3_makeThings) dX3_makeThings_12 rfl rfl ?_
  obtain ⟨hb2, h⟩ := h
  refine r_iald (y := m3_makeThings) (n := ne0) dX3_makeThings_13 (he0.2 5 (by decide) (by decide)).2 hb2 ?_
  refine r_istore (y := m3_makeThings) (L' := [some (.ref 12), some (.ref e0), some (.int a1), some (.int a2), some (.int a3), some (.int (mI m (e0 + 6) (Int32.toNatClampNeg a1))), some (.int (mI m (e0 + 5) (Int32.toNatClampNeg a1)))]) dX3_makeThings_14 (Nat.le_of_ble_eq_true rfl) rfl ?_
  exact h
set_option maxHeartbeats 4000000 in
set_option maxRecDepth 100000 in
theorem w3_makeThings_16 {m : Mm} {K : Option Value ⊕ String → Mm → Prop} (hm : St m) {ee1 nn1 : Nat} {v2 : Int32} {v3 : Int32} {v4 : Int32} {v5 : Int32} {v6 : Int32} (hee1 : isExp m ee1 nn1) (h : ((v2 < v6 → vp_in v2 12 ∧ K (.inl (some (.int (mI m 30 (Int32.toNatClampNeg v2))))) m) ∧ (¬ v2 < v6 → vp_in v6 nn1 ∧ ((¬ (mI m (ee1 + 6) (Int32.toNatClampNeg v6)) = v5 → V m3_makeThings 16 [some (.ref 12), some (.ref ee1), some (.int v2), some (.int v3), some (.int v4), some (.int v5), some (.int (v6 + 1))] [] m K) ∧ ((mI m (ee1 + 6) (Int32.toNatClampNeg v6)) = v5 → C m3_makeThing [(.ref 12), (.ref ee1), (.int v6), (.int v3), (.int v4)] m (fun o m5 => ∃ x7 : Int32, o = .inl (some (.int x7)) ∧ St m5 ∧ vp_in v6 12 ∧ V m3_makeThings 16 [some (.ref 12), some (.ref ee1), some (.int v2), some (.int v3), some (.int v4), some (.int v5), some (.int (v6 + 1))] [] (mSetI m5 30 (Int32.toNatClampNeg v6) x7) K)))))) : V m3_makeThings 16 [some (.ref 12), some (.ref ee1), some (.int v2), some (.int v3), some (.int v4), some (.int v5), some (.int v6)] [] m K := by
  refine r_iload (y := m3_makeThings) dX3_makeThings_16 rfl ?_
  refine r_iload_n (y := m3_makeThings) dX3_makeThings_18 rfl rfl ?_
  refine r_icmp_gt (y := m3_makeThings) (tgt := 57) dX3_makeThings_19 (by decide) (fun hc1 => ?_) (fun hc1 => ?_)
  · have h := h.1 hc1
    refine r_aload_n (y := m3_makeThings) dX3_makeThings_57 rfl rfl ?_
    refine g_X3_37 (y := m3_makeThings) rfl dX3_makeThings_58 hm ?_
    refine r_iload_n (y := m3_makeThings) dX3_makeThings_61 rfl rfl ?_
    obtain ⟨hb2, h⟩ := h
    refine r_iald (y := m3_makeThings) (n := 12) dX3_makeThings_62 (sa_30 hm) hb2 ?_
    exact r_iret (y := m3_makeThings) dX3_makeThings_63 rfl rfl h
  · have h := h.2 hc1
    refine r_aload_n (y := m3_makeThings) dX3_makeThings_22 rfl rfl ?_
    refine g_X3_208 (y := m3_makeThings) rfl dX3_makeThings_23 hee1 ?_
    refine r_iload (y := m3_makeThings) dX3_makeThings_26 rfl ?_
    obtain ⟨hb3, h⟩ := h
    refine r_iald (y := m3_makeThings) (n := nn1) dX3_makeThings_28 (hee1.2 6 (by decide) (by decide)).2 hb3 ?_
    refine r_iload (y := m3_makeThings) dX3_makeThings_29 rfl ?_
    refine r_icmp_ne (y := m3_makeThings) (tgt := 51) dX3_makeThings_31 (by decide) (fun hc4 => ?_) (fun hc4 => ?_)
    · have h := h.1 hc4
      refine r_iinc (y := m3_makeThings) (v := (v6 + 1)) (L' := [some (.ref 12), some (.ref ee1), some (.int v2), some (.int v3), some (.int v4), some (.int v5), some (.int (v6 + 1))]) dX3_makeThings_51 rfl (by rfl) rfl ?_
      refine r_goto (y := m3_makeThings) (tgt := 16) dX3_makeThings_54 (by decide) ?_
      exact h
    · have h := h.2 hc4
      refine r_aload_n (y := m3_makeThings) dX3_makeThings_34 rfl rfl ?_
      refine g_X3_37 (y := m3_makeThings) rfl dX3_makeThings_35 hm ?_
      refine r_iload (y := m3_makeThings) dX3_makeThings_38 rfl ?_
      refine r_aload_n (y := m3_makeThings) dX3_makeThings_40 rfl rfl ?_
      refine r_aload_n (y := m3_makeThings) dX3_makeThings_41 rfl rfl ?_
      refine r_iload (y := m3_makeThings) dX3_makeThings_42 rfl ?_
      refine r_iload_n (y := m3_makeThings) dX3_makeThings_44 rfl rfl ?_
      refine r_iload (y := m3_makeThings) dX3_makeThings_45 rfl ?_
      refine r_callV (y := m3_makeThings) (As := [(.ref ee1), (.int v6), (.int v3), (.int v4)]) (b := 12) (ci := 3) dX3_makeThings_47 rfl k3_makeThing lm_X3_212 rfl ⟨by decide, by decide⟩ (so_12 hm) (by decide) rfl (Nat.le_of_ble_eq_true rfl) (C.mono h ?_)
      rintro _ m5 ⟨x7, rfl, hm6, h⟩
      refine ⟨_, rfl, ?_⟩
      obtain ⟨hb8, h⟩ := h
      refine r_iast (y := m3_makeThings) (n := 12) dX3_makeThings_50 (sa_30 hm6) hb8 ?_
      refine r_iinc (y := m3_makeThings) (v := (v6 + 1)) (L' := [some (.ref 12), some (.ref ee1), some (.int v2), some (.int v3), some (.int v4), some (.int v5), some (.int (v6 + 1))]) dX3_makeThings_51 rfl (by rfl) rfl ?_
      refine r_goto (y := m3_makeThings) (tgt := 16) dX3_makeThings_54 (by decide) ?_
      exact h
set_option maxHeartbeats 4000000 in
set_option maxRecDepth 100000 in
theorem w3_makeThing {m : Mm} {K : Option Value ⊕ String → Mm → Prop} (hm : St m) {e0 ne0 : Nat} {a1 : Int32} {a2 : Int32} {a3 : Int32} (he0 : isExp m e0 ne0) (h : vp_in a1 ne0 ∧ ((¬ (mI m (e0 + 1) (Int32.toNatClampNeg a1)) = 0 → ((¬ (mI m (e0 + 1) (Int32.toNatClampNeg a1)) = 6 → vp_in a1 ne0 ∧ (((mI m (e0 + 3) (Int32.toNatClampNeg a1)) < 0 → vp_in a1 ne0 ∧ (((mI m (e0 + 4) (Int32.toNatClampNeg a1)) < 0 → vp_in a1 ne0 ∧ C m10_add [(.ref 13), (.int (mI m (e0 + 1) (Int32.toNatClampNeg a1))), (.int (mI m (e0 + 2) (Int32.toNatClampNeg a1))), (.int (-1)), (.int (-1)), (.int a2), (.int a3)] m (fun o m9 => ∃ x11 : Int32, o = .inl (some (.int x11)) ∧ St m9 ∧ K (.inl (some (.int x11))) m9)) ∧ (¬ (mI m (e0 + 4) (Int32.toNatClampNeg a1)) < 0 → vp_in a1 ne0 ∧ vp_in (mI m (e0 + 4) (Int32.toNatClampNeg a1)) 12 ∧ vp_in a1 ne0 ∧ C m10_add [(.ref 13), (.int (mI m (e0 + 1) (Int32.toNatClampNeg a1))), (.int (mI m (e0 + 2) (Int32.toNatClampNeg a1))), (.int (-1)), (.int (mI m 30 (Int32.toNatClampNeg (mI m (e0 + 4) (Int32.toNatClampNeg a1))))), (.int a2), (.int a3)] m (fun o m15 => ∃ x17 : Int32, o = .inl (some (.int x17)) ∧ St m15 ∧ K (.inl (some (.int x17))) m15)))) ∧ (¬ (mI m (e0 + 3) (Int32.toNatClampNeg a1)) < 0 → vp_in a1 ne0 ∧ vp_in (mI m (e0 + 3) (Int32.toNatClampNeg a1)) 12 ∧ vp_in a1 ne0 ∧ (((mI m (e0 + 4) (Int32.toNatClampNeg a1)) < 0 → vp_in a1 ne0 ∧ C m10_add [(.ref 13), (.int (mI m (e0 + 1) (Int32.toNatClampNeg a1))), (.int (mI m (e0 + 2) (Int32.toNatClampNeg a1))), (.int (mI m 30 (Int32.toNatClampNeg (mI m (e0 + 3) (Int32.toNatClampNeg a1))))), (.int (-1)), (.int a2), (.int a3)] m (fun o m23 => ∃ x25 : Int32, o = .inl (some (.int x25)) ∧ St m23 ∧ K (.inl (some (.int x25))) m23)) ∧ (¬ (mI m (e0 + 4) (Int32.toNatClampNeg a1)) < 0 → vp_in a1 ne0 ∧ vp_in (mI m (e0 + 4) (Int32.toNatClampNeg a1)) 12 ∧ vp_in a1 ne0 ∧ C m10_add [(.ref 13), (.int (mI m (e0 + 1) (Int32.toNatClampNeg a1))), (.int (mI m (e0 + 2) (Int32.toNatClampNeg a1))), (.int (mI m 30 (Int32.toNatClampNeg (mI m (e0 + 3) (Int32.toNatClampNeg a1))))), (.int (mI m 30 (Int32.toNatClampNeg (mI m (e0 + 4) (Int32.toNatClampNeg a1))))), (.int a2), (.int a3)] m (fun o m29 => ∃ x31 : Int32, o = .inl (some (.int x31)) ∧ St m29 ∧ K (.inl (some (.int x31))) m29)))))) ∧ ((mI m (e0 + 1) (Int32.toNatClampNeg a1)) = 6 → vp_in a1 ne0 ∧ C m10_add [(.ref 13), (.int 6), (.int (mI m (e0 + 3) (Int32.toNatClampNeg a1))), (.int (-1)), (.int (-1)), (.int a2), (.int a3)] m (fun o m33 => ∃ x35 : Int32, o = .inl (some (.int x35)) ∧ St m33 ∧ K (.inl (some (.int x35))) m33)))) ∧ ((mI m (e0 + 1) (Int32.toNatClampNeg a1)) = 0 → vp_in a2 102 ∧ vp_in a1 ne0 ∧ vp_in (mI m (e0 + 2) (Int32.toNatClampNeg a1)) 6 ∧ K (.inl (some (.int (mI m (32 + 2 * (Int32.toNatClampNeg a2)) (Int32.toNatClampNeg (mI m (e0 + 2) (Int32.toNatClampNeg a1))))))) m))) : V m3_makeThing 0 [some (.ref 12), some (.ref e0), some (.int a1), some (.int a2), some (.int a3), none, none, none] [] m K := by
  refine r_aload_n (y := m3_makeThing) dX3_makeThing_0 rfl rfl ?_
  refine g_X3_199 (y := m3_makeThing) rfl dX3_makeThing_1 he0 ?_
  refine r_iload_n (y := m3_makeThing) dX3_makeThing_4 rfl rfl ?_
  obtain ⟨hb1, h⟩ := h
  refine r_iald (y := m3_makeThing) (n := ne0) dX3_makeThing_5 (he0.2 1 (by decide) (by decide)).2 hb1 ?_
  refine r_istore (y := m3_makeThing) (L' := [some (.ref 12), some (.ref e0), some (.int a1), some (.int a2), some (.int a3), some (.int (mI m (e0 + 1) (Int32.toNatClampNeg a1))), none, none]) dX3_makeThing_6 (Nat.le_of_ble_eq_true rfl) rfl ?_
  refine r_iload (y := m3_makeThing) dX3_makeThing_8 rfl ?_
  refine r_if_ne (y := m3_makeThing) (tgt := 30) dX3_makeThing_10 (by decide) (fun hc2 => ?_) (fun hc2 => ?_)
  · have h := h.1 hc2
    refine r_iload (y := m3_makeThing) dX3_makeThing_30 rfl ?_
    refine r_bipush (y := m3_makeThing) (v := 6) dX3_makeThing_32 (by decide) ?_
    refine r_icmp_ne (y := m3_makeThing) (tgt := 58) dX3_makeThing_34 (by decide) (fun hc3 => ?_) (fun hc3 => ?_)
    · have h := h.1 hc3
      refine r_aload_n (y := m3_makeThing) dX3_makeThing_58 rfl rfl ?_
      refine g_X3_215 (y := m3_makeThing) rfl dX3_makeThing_59 he0 ?_
      refine r_iload_n (y := m3_makeThing) dX3_makeThing_62 rfl rfl ?_
      obtain ⟨hb4, h⟩ := h
      refine r_iald (y := m3_makeThing) (n := ne0) dX3_makeThing_63 (he0.2 3 (by decide) (by decide)).2 hb4 ?_
      refine r_if_lt (y := m3_makeThing) (tgt := 81) dX3_makeThing_64 (by decide) (fun hc5 => ?_) (fun hc5 => ?_)
      · have h := h.1 hc5
        refine r_iconst (y := m3_makeThing) (v := (-1)) dX3_makeThing_81 (by decide) ?_
        refine r_istore (y := m3_makeThing) (L' := [some (.ref 12), some (.ref e0), some (.int a1), some (.int a2), some (.int a3), some (.int (mI m (e0 + 1) (Int32.toNatClampNeg a1))), some (.int (-1)), none]) dX3_makeThing_82 (Nat.le_of_ble_eq_true rfl) rfl ?_
        refine r_aload_n (y := m3_makeThing) dX3_makeThing_84 rfl rfl ?_
        refine g_X3_222 (y := m3_makeThing) rfl dX3_makeThing_85 he0 ?_
        refine r_iload_n (y := m3_makeThing) dX3_makeThing_88 rfl rfl ?_
        obtain ⟨hb6, h⟩ := h
        refine r_iald (y := m3_makeThing) (n := ne0) dX3_makeThing_89 (he0.2 4 (by decide) (by decide)).2 hb6 ?_
        refine r_if_lt (y := m3_makeThing) (tgt := 107) dX3_makeThing_90 (by decide) (fun hc7 => ?_) (fun hc7 => ?_)
        · have h := h.1 hc7
          refine r_iconst (y := m3_makeThing) (v := (-1)) dX3_makeThing_107 (by decide) ?_
          refine r_istore (y := m3_makeThing) (L' := [some (.ref 12), some (.ref e0), some (.int a1), some (.int a2), some (.int a3), some (.int (mI m (e0 + 1) (Int32.toNatClampNeg a1))), some (.int (-1)), some (.int (-1))]) dX3_makeThing_108 (Nat.le_of_ble_eq_true rfl) rfl ?_
          refine r_aload_n (y := m3_makeThing) dX3_makeThing_110 rfl rfl ?_
          refine g_X3_12 (y := m3_makeThing) rfl dX3_makeThing_111 hm ?_
          refine r_iload (y := m3_makeThing) dX3_makeThing_114 rfl ?_
          refine r_aload_n (y := m3_makeThing) dX3_makeThing_116 rfl rfl ?_
          refine g_X3_202 (y := m3_makeThing) rfl dX3_makeThing_117 he0 ?_
          refine r_iload_n (y := m3_makeThing) dX3_makeThing_120 rfl rfl ?_
          obtain ⟨hb8, h⟩ := h
          refine r_iald (y := m3_makeThing) (n := ne0) dX3_makeThing_121 (he0.2 2 (by decide) (by decide)).2 hb8 ?_
          refine r_iload (y := m3_makeThing) dX3_makeThing_122 rfl ?_
          refine r_iload (y := m3_makeThing) dX3_makeThing_124 rfl ?_
          refine r_iload_n (y := m3_makeThing) dX3_makeThing_126 rfl rfl ?_
          refine r_iload (y := m3_makeThing) dX3_makeThing_127 rfl ?_
          refine r_callVN (y := m3_makeThing) (As := [(.int (mI m (e0 + 1) (Int32.toNatClampNeg a1))), (.int (mI m (e0 + 2) (Int32.toNatClampNeg a1))), (.int (-1)), (.int (-1)), (.int a2), (.int a3)]) (b := 13) (ci := 10) dX3_makeThing_129 rfl k10_add lm_X3_218 rfl ⟨by decide, by decide⟩ (so_13 hm) (by decide) rfl (Nat.le_of_ble_eq_true rfl) (C.mono h ?_)
          rintro _ m9 ⟨x11, rfl, hm10, h⟩
          refine ⟨_, rfl, ?_⟩
          exact r_iret (y := m3_makeThing) dX3_makeThing_132 rfl rfl h
        · have h := h.2 hc7
          refine r_aload_n (y := m3_makeThing) dX3_makeThing_93 rfl rfl ?_
          refine g_X3_37 (y := m3_makeThing) rfl dX3_makeThing_94 hm ?_
          refine r_aload_n (y := m3_makeThing) dX3_makeThing_97 rfl rfl ?_
          refine g_X3_222 (y := m3_makeThing) rfl dX3_makeThing_98 he0 ?_
          refine r_iload_n (y := m3_makeThing) dX3_makeThing_101 rfl rfl ?_
          obtain ⟨hb12, h⟩ := h
          refine r_iald (y := m3_makeThing) (n := ne0) dX3_makeThing_102 (he0.2 4 (by decide) (by decide)).2 hb12 ?_
          obtain ⟨hb13, h⟩ := h
          refine r_iald (y := m3_makeThing) (n := 12) dX3_makeThing_103 (sa_30 hm) hb13 ?_
          refine r_goto (y := m3_makeThing) (tgt := 108) dX3_makeThing_104 (by decide) ?_
          refine r_istore (y := m3_makeThing) (L' := [some (.ref 12), some (.ref e0), some (.int a1), some (.int a2), some (.int a3), some (.int (mI m (e0 + 1) (Int32.toNatClampNeg a1))), some (.int (-1)), some (.int (mI m 30 (Int32.toNatClampNeg (mI m (e0 + 4) (Int32.toNatClampNeg a1)))))]) dX3_makeThing_108 (Nat.le_of_ble_eq_true rfl) rfl ?_
          refine r_aload_n (y := m3_makeThing) dX3_makeThing_110 rfl rfl ?_
          refine g_X3_12 (y := m3_makeThing) rfl dX3_makeThing_111 hm ?_
          refine r_iload (y := m3_makeThing) dX3_makeThing_114 rfl ?_
          refine r_aload_n (y := m3_makeThing) dX3_makeThing_116 rfl rfl ?_
          refine g_X3_202 (y := m3_makeThing) rfl dX3_makeThing_117 he0 ?_
          refine r_iload_n (y := m3_makeThing) dX3_makeThing_120 rfl rfl ?_
          obtain ⟨hb14, h⟩ := h
          refine r_iald (y := m3_makeThing) (n := ne0) dX3_makeThing_121 (he0.2 2 (by decide) (by decide)).2 hb14 ?_
          refine r_iload (y := m3_makeThing) dX3_makeThing_122 rfl ?_
          refine r_iload (y := m3_makeThing) dX3_makeThing_124 rfl ?_
          refine r_iload_n (y := m3_makeThing) dX3_makeThing_126 rfl rfl ?_
          refine r_iload (y := m3_makeThing) dX3_makeThing_127 rfl ?_
          refine r_callVN (y := m3_makeThing) (As := [(.int (mI m (e0 + 1) (Int32.toNatClampNeg a1))), (.int (mI m (e0 + 2) (Int32.toNatClampNeg a1))), (.int (-1)), (.int (mI m 30 (Int32.toNatClampNeg (mI m (e0 + 4) (Int32.toNatClampNeg a1))))), (.int a2), (.int a3)]) (b := 13) (ci := 10) dX3_makeThing_129 rfl k10_add lm_X3_218 rfl ⟨by decide, by decide⟩ (so_13 hm) (by decide) rfl (Nat.le_of_ble_eq_true rfl) (C.mono h ?_)
          rintro _ m15 ⟨x17, rfl, hm16, h⟩
          refine ⟨_, rfl, ?_⟩
          exact r_iret (y := m3_makeThing) dX3_makeThing_132 rfl rfl h
      · have h := h.2 hc5
        refine r_aload_n (y := m3_makeThing) dX3_makeThing_67 rfl rfl ?_
        refine g_X3_37 (y := m3_makeThing) rfl dX3_makeThing_68 hm ?_
        refine r_aload_n (y := m3_makeThing) dX3_makeThing_71 rfl rfl ?_
        refine g_X3_215 (y := m3_makeThing) rfl dX3_makeThing_72 he0 ?_
        refine r_iload_n (y := m3_makeThing) dX3_makeThing_75 rfl rfl ?_
        obtain ⟨hb18, h⟩ := h
        refine r_iald (y := m3_makeThing) (n := ne0) dX3_makeThing_76 (he0.2 3 (by decide) (by decide)).2 hb18 ?_
        obtain ⟨hb19, h⟩ := h
        refine r_iald (y := m3_makeThing) (n := 12) dX3_makeThing_77 (sa_30 hm) hb19 ?_
        refine r_goto (y := m3_makeThing) (tgt := 82) dX3_makeThing_78 (by decide) ?_
        refine r_istore (y := m3_makeThing) (L' := [some (.ref 12), some (.ref e0), some (.int a1), some (.int a2), some (.int a3), some (.int (mI m (e0 + 1) (Int32.toNatClampNeg a1))), some (.int (mI m 30 (Int32.toNatClampNeg (mI m (e0 + 3) (Int32.toNatClampNeg a1))))), none]) dX3_makeThing_82 (Nat.le_of_ble_eq_true rfl) rfl ?_
        refine r_aload_n (y := m3_makeThing) dX3_makeThing_84 rfl rfl ?_
        refine g_X3_222 (y := m3_makeThing) rfl dX3_makeThing_85 he0 ?_
        refine r_iload_n (y := m3_makeThing) dX3_makeThing_88 rfl rfl ?_
        obtain ⟨hb20, h⟩ := h
        refine r_iald (y := m3_makeThing) (n := ne0) dX3_makeThing_89 (he0.2 4 (by decide) (by decide)).2 hb20 ?_
        refine r_if_lt (y := m3_makeThing) (tgt := 107) dX3_makeThing_90 (by decide) (fun hc21 => ?_) (fun hc21 => ?_)
        · have h := h.1 hc21
          refine r_iconst (y := m3_makeThing) (v := (-1)) dX3_makeThing_107 (by decide) ?_
          refine r_istore (y := m3_makeThing) (L' := [some (.ref 12), some (.ref e0), some (.int a1), some (.int a2), some (.int a3), some (.int (mI m (e0 + 1) (Int32.toNatClampNeg a1))), some (.int (mI m 30 (Int32.toNatClampNeg (mI m (e0 + 3) (Int32.toNatClampNeg a1))))), some (.int (-1))]) dX3_makeThing_108 (Nat.le_of_ble_eq_true rfl) rfl ?_
          refine r_aload_n (y := m3_makeThing) dX3_makeThing_110 rfl rfl ?_
          refine g_X3_12 (y := m3_makeThing) rfl dX3_makeThing_111 hm ?_
          refine r_iload (y := m3_makeThing) dX3_makeThing_114 rfl ?_
          refine r_aload_n (y := m3_makeThing) dX3_makeThing_116 rfl rfl ?_
          refine g_X3_202 (y := m3_makeThing) rfl dX3_makeThing_117 he0 ?_
          refine r_iload_n (y := m3_makeThing) dX3_makeThing_120 rfl rfl ?_
          obtain ⟨hb22, h⟩ := h
          refine r_iald (y := m3_makeThing) (n := ne0) dX3_makeThing_121 (he0.2 2 (by decide) (by decide)).2 hb22 ?_
          refine r_iload (y := m3_makeThing) dX3_makeThing_122 rfl ?_
          refine r_iload (y := m3_makeThing) dX3_makeThing_124 rfl ?_
          refine r_iload_n (y := m3_makeThing) dX3_makeThing_126 rfl rfl ?_
          refine r_iload (y := m3_makeThing) dX3_makeThing_127 rfl ?_
          refine r_callVN (y := m3_makeThing) (As := [(.int (mI m (e0 + 1) (Int32.toNatClampNeg a1))), (.int (mI m (e0 + 2) (Int32.toNatClampNeg a1))), (.int (mI m 30 (Int32.toNatClampNeg (mI m (e0 + 3) (Int32.toNatClampNeg a1))))), (.int (-1)), (.int a2), (.int a3)]) (b := 13) (ci := 10) dX3_makeThing_129 rfl k10_add lm_X3_218 rfl ⟨by decide, by decide⟩ (so_13 hm) (by decide) rfl (Nat.le_of_ble_eq_true rfl) (C.mono h ?_)
          rintro _ m23 ⟨x25, rfl, hm24, h⟩
          refine ⟨_, rfl, ?_⟩
          exact r_iret (y := m3_makeThing) dX3_makeThing_132 rfl rfl h
        · have h := h.2 hc21
          refine r_aload_n (y := m3_makeThing) dX3_makeThing_93 rfl rfl ?_
          refine g_X3_37 (y := m3_makeThing) rfl dX3_makeThing_94 hm ?_
          refine r_aload_n (y := m3_makeThing) dX3_makeThing_97 rfl rfl ?_
          refine g_X3_222 (y := m3_makeThing) rfl dX3_makeThing_98 he0 ?_
          refine r_iload_n (y := m3_makeThing) dX3_makeThing_101 rfl rfl ?_
          obtain ⟨hb26, h⟩ := h
          refine r_iald (y := m3_makeThing) (n := ne0) dX3_makeThing_102 (he0.2 4 (by decide) (by decide)).2 hb26 ?_
          obtain ⟨hb27, h⟩ := h
          refine r_iald (y := m3_makeThing) (n := 12) dX3_makeThing_103 (sa_30 hm) hb27 ?_
          refine r_goto (y := m3_makeThing) (tgt := 108) dX3_makeThing_104 (by decide) ?_
          refine r_istore (y := m3_makeThing) (L' := [some (.ref 12), some (.ref e0), some (.int a1), some (.int a2), some (.int a3), some (.int (mI m (e0 + 1) (Int32.toNatClampNeg a1))), some (.int (mI m 30 (Int32.toNatClampNeg (mI m (e0 + 3) (Int32.toNatClampNeg a1))))), some (.int (mI m 30 (Int32.toNatClampNeg (mI m (e0 + 4) (Int32.toNatClampNeg a1)))))]) dX3_makeThing_108 (Nat.le_of_ble_eq_true rfl) rfl ?_
          refine r_aload_n (y := m3_makeThing) dX3_makeThing_110 rfl rfl ?_
          refine g_X3_12 (y := m3_makeThing) rfl dX3_makeThing_111 hm ?_
          refine r_iload (y := m3_makeThing) dX3_makeThing_114 rfl ?_
          refine r_aload_n (y := m3_makeThing) dX3_makeThing_116 rfl rfl ?_
          refine g_X3_202 (y := m3_makeThing) rfl dX3_makeThing_117 he0 ?_
          refine r_iload_n (y := m3_makeThing) dX3_makeThing_120 rfl rfl ?_
          obtain ⟨hb28, h⟩ := h
          refine r_iald (y := m3_makeThing) (n := ne0) dX3_makeThing_121 (he0.2 2 (by decide) (by decide)).2 hb28 ?_
          refine r_iload (y := m3_makeThing) dX3_makeThing_122 rfl ?_
          refine r_iload (y := m3_makeThing) dX3_makeThing_124 rfl ?_
          refine r_iload_n (y := m3_makeThing) dX3_makeThing_126 rfl rfl ?_
          refine r_iload (y := m3_makeThing) dX3_makeThing_127 rfl ?_
          refine r_callVN (y := m3_makeThing) (As := [(.int (mI m (e0 + 1) (Int32.toNatClampNeg a1))), (.int (mI m (e0 + 2) (Int32.toNatClampNeg a1))), (.int (mI m 30 (Int32.toNatClampNeg (mI m (e0 + 3) (Int32.toNatClampNeg a1))))), (.int (mI m 30 (Int32.toNatClampNeg (mI m (e0 + 4) (Int32.toNatClampNeg a1))))), (.int a2), (.int a3)]) (b := 13) (ci := 10) dX3_makeThing_129 rfl k10_add lm_X3_218 rfl ⟨by decide, by decide⟩ (so_13 hm) (by decide) rfl (Nat.le_of_ble_eq_true rfl) (C.mono h ?_)
          rintro _ m29 ⟨x31, rfl, hm30, h⟩
          refine ⟨_, rfl, ?_⟩
          exact r_iret (y := m3_makeThing) dX3_makeThing_132 rfl rfl h
    · have h := h.2 hc3
      refine r_aload_n (y := m3_makeThing) dX3_makeThing_37 rfl rfl ?_
      refine g_X3_12 (y := m3_makeThing) rfl dX3_makeThing_38 hm ?_
      refine r_bipush (y := m3_makeThing) (v := 6) dX3_makeThing_41 (by decide) ?_
      refine r_aload_n (y := m3_makeThing) dX3_makeThing_43 rfl rfl ?_
      refine g_X3_215 (y := m3_makeThing) rfl dX3_makeThing_44 he0 ?_
      refine r_iload_n (y := m3_makeThing) dX3_makeThing_47 rfl rfl ?_
      obtain ⟨hb32, h⟩ := h
      refine r_iald (y := m3_makeThing) (n := ne0) dX3_makeThing_48 (he0.2 3 (by decide) (by decide)).2 hb32 ?_
      refine r_iconst (y := m3_makeThing) (v := (-1)) dX3_makeThing_49 (by decide) ?_
      refine r_iconst (y := m3_makeThing) (v := (-1)) dX3_makeThing_50 (by decide) ?_
      refine r_iload_n (y := m3_makeThing) dX3_makeThing_51 rfl rfl ?_
      refine r_iload (y := m3_makeThing) dX3_makeThing_52 rfl ?_
      refine r_callVN (y := m3_makeThing) (As := [(.int 6), (.int (mI m (e0 + 3) (Int32.toNatClampNeg a1))), (.int (-1)), (.int (-1)), (.int a2), (.int a3)]) (b := 13) (ci := 10) dX3_makeThing_54 rfl k10_add lm_X3_218 rfl ⟨by decide, by decide⟩ (so_13 hm) (by decide) rfl (Nat.le_of_ble_eq_true rfl) (C.mono h ?_)
      rintro _ m33 ⟨x35, rfl, hm34, h⟩
      refine ⟨_, rfl, ?_⟩
      exact r_iret (y := m3_makeThing) dX3_makeThing_57 rfl rfl h
  · have h := h.2 hc2
    refine r_aload_n (y := m3_makeThing) dX3_makeThing_13 rfl rfl ?_
    refine g_X3_27 (y := m3_makeThing) rfl dX3_makeThing_14 hm ?_
    refine r_iload_n (y := m3_makeThing) dX3_makeThing_17 rfl rfl ?_
    obtain ⟨hb36, h⟩ := h
    have hl37 := vp_lt hb36
    refine r_aald (y := m3_makeThing) (n := 102) (r := some (31 + 2 * (Int32.toNatClampNeg a2))) dX3_makeThing_18 (sa_28 hm) (by decide) (by decide) hb36 (sr_sc hm hl37) ?_
    refine g_X3_192 (y := m3_makeThing) (i := (Int32.toNatClampNeg a2)) rfl dX3_makeThing_19 hm hl37 ?_
    refine r_aload_n (y := m3_makeThing) dX3_makeThing_22 rfl rfl ?_
    refine g_X3_202 (y := m3_makeThing) rfl dX3_makeThing_23 he0 ?_
    refine r_iload_n (y := m3_makeThing) dX3_makeThing_26 rfl rfl ?_
    obtain ⟨hb38, h⟩ := h
    refine r_iald (y := m3_makeThing) (n := ne0) dX3_makeThing_27 (he0.2 2 (by decide) (by decide)).2 hb38 ?_
    obtain ⟨hb39, h⟩ := h
    refine r_iald (y := m3_makeThing) (n := 6) dX3_makeThing_28 (sa_st hm hl37) hb39 ?_
    exact r_iret (y := m3_makeThing) dX3_makeThing_29 rfl rfl h
set_option maxHeartbeats 4000000 in
set_option maxRecDepth 100000 in
theorem w3_force {m : Mm} {K : Option Value ⊕ String → Mm → Prop} (hm : St m) {a0 : Int32}  (h : vp_in a0 3500 ∧ vp_in a0 3500 ∧ vp_in a0 3500 ∧ (((mI m 14 (Int32.toNatClampNeg a0)) = 2 → C m3_startCall [(.ref 12), (.int a0)] m (fun o m5 => o = .inl none ∧ St m5 ∧ K (.inl none) m5)) ∧ ((mI m 14 (Int32.toNatClampNeg a0)) = 3 → C m3_choose [(.ref 12), (.int a0)] m (fun o m8 => o = .inl none ∧ St m8 ∧ K (.inl none) m8)) ∧ ((mI m 14 (Int32.toNatClampNeg a0)) = 4 → C m9_push_ [(.ref 23), (.int 5), (.int a0)] m (fun o m11 => o = .inl none ∧ St m11 ∧ C m9_push [(.ref 23), (.int 4), (.int (mI m 16 (Int32.toNatClampNeg a0))), (.int (mI m 17 (Int32.toNatClampNeg a0))), (.int a0)] m11 (fun o m13 => o = .inl none ∧ St m13 ∧ C m9_push_ [(.ref 23), (.int 1), (.int (mI m 17 (Int32.toNatClampNeg a0)))] m13 (fun o m15 => o = .inl none ∧ St m15 ∧ C m9_push_ [(.ref 23), (.int 1), (.int (mI m 16 (Int32.toNatClampNeg a0)))] m15 (fun o m17 => o = .inl none ∧ St m17 ∧ K (.inl none) m17))))) ∧ ((mI m 14 (Int32.toNatClampNeg a0)) = 5 → C m9_push_ [(.ref 23), (.int 7), (.int a0)] m (fun o m20 => o = .inl none ∧ St m20 ∧ C m9_push [(.ref 23), (.int 6), (.int (mI m 16 (Int32.toNatClampNeg a0))), (.int (mI m 17 (Int32.toNatClampNeg a0))), (.int a0)] m20 (fun o m22 => o = .inl none ∧ St m22 ∧ C m9_push_ [(.ref 23), (.int 1), (.int (mI m 17 (Int32.toNatClampNeg a0)))] m22 (fun o m24 => o = .inl none ∧ St m24 ∧ C m9_push_ [(.ref 23), (.int 1), (.int (mI m 16 (Int32.toNatClampNeg a0)))] m24 (fun o m26 => o = .inl none ∧ St m26 ∧ K (.inl none) m26))))) ∧ ((mI m 14 (Int32.toNatClampNeg a0)) = 6 → C m3_startSome [(.ref 12), (.int a0)] m (fun o m29 => o = .inl none ∧ St m29 ∧ K (.inl none) m29)) ∧ (¬ (mI m 14 (Int32.toNatClampNeg a0)) = 2 → ¬ (mI m 14 (Int32.toNatClampNeg a0)) = 3 → ¬ (mI m 14 (Int32.toNatClampNeg a0)) = 4 → ¬ (mI m 14 (Int32.toNatClampNeg a0)) = 5 → ¬ (mI m 14 (Int32.toNatClampNeg a0)) = 6 → K (.inl none) m))) : V m3_force 0 [some (.ref 12), some (.int a0), none, none] [] m K := by
  refine r_aload_n (y := m3_force) dX3_force_0 rfl rfl ?_
  refine g_X3_12 (y := m3_force) rfl dX3_force_1 hm ?_
  refine g_X3_225 (y := m3_force) rfl dX3_force_4 hm ?_
  refine r_iload_n (y := m3_force) dX3_force_7 rfl rfl ?_
  obtain ⟨hb1, h⟩ := h
  refine r_iald (y := m3_force) (n := 3500) dX3_force_8 (sa_16 hm) hb1 ?_
  refine r_istore_n (y := m3_force) (L' := [some (.ref 12), some (.int a0), some (.int (mI m 16 (Int32.toNatClampNeg a0))), none]) dX3_force_9 rfl (Nat.le_of_ble_eq_true rfl) rfl ?_
  refine r_aload_n (y := m3_force) dX3_force_10 rfl rfl ?_
  refine g_X3_12 (y := m3_force) rfl dX3_force_11 hm ?_
  refine g_X3_226 (y := m3_force) rfl dX3_force_14 hm ?_
  refine r_iload_n (y := m3_force) dX3_force_17 rfl rfl ?_
  obtain ⟨hb2, h⟩ := h
  refine r_iald (y := m3_force) (n := 3500) dX3_force_18 (sa_17 hm) hb2 ?_
  refine r_istore_n (y := m3_force) (L' := [some (.ref 12), some (.int a0), some (.int (mI m 16 (Int32.toNatClampNeg a0))), some (.int (mI m 17 (Int32.toNatClampNeg a0)))]) dX3_force_19 rfl (Nat.le_of_ble_eq_true rfl) rfl ?_
  refine r_aload_n (y := m3_force) dX3_force_20 rfl rfl ?_
  refine g_X3_12 (y := m3_force) rfl dX3_force_21 hm ?_
  refine g_X3_227 (y := m3_force) rfl dX3_force_24 hm ?_
  refine r_iload_n (y := m3_force) dX3_force_27 rfl rfl ?_
  obtain ⟨hb3, h⟩ := h
  refine r_iald (y := m3_force) (n := 3500) dX3_force_28 (sa_14 hm) hb3 ?_
  by_cases hc4 : (mI m 14 (Int32.toNatClampNeg a0)) = 2
  · have h := h.1 hc4
    refine r_tableIn (y := m3_force) (x := (mI m 14 (Int32.toNatClampNeg a0))) (off := 35) (tgt := 64) dX3_force_29 (by rw [hc4]; decide) (by rw [hc4]; decide) (by rw [hc4]; rfl) (by decide) ?_
    refine r_aload_n (y := m3_force) dX3_force_64 rfl rfl ?_
    refine r_iload_n (y := m3_force) dX3_force_65 rfl rfl ?_
    refine r_callV (y := m3_force) (As := [(.int a0)]) (b := 12) (ci := 3) dX3_force_66 rfl k3_startCall lm_X3_228 rfl ⟨by decide, by decide⟩ (so_12 hm) (by decide) rfl (Nat.le_of_ble_eq_true rfl) (C.mono h ?_)
    rintro _ m5 ⟨rfl, hm6, h⟩
    refine ⟨none, rfl, ?_⟩
    refine r_goto (y := m3_force) (tgt := 172) dX3_force_69 (by decide) ?_
    exact r_ret (y := m3_force) dX3_force_172 rfl h
  by_cases hc7 : (mI m 14 (Int32.toNatClampNeg a0)) = 3
  · have h := h.2.1 hc7
    refine r_tableIn (y := m3_force) (x := (mI m 14 (Int32.toNatClampNeg a0))) (off := 43) (tgt := 72) dX3_force_29 (by rw [hc7]; decide) (by rw [hc7]; decide) (by rw [hc7]; rfl) (by decide) ?_
    refine r_aload_n (y := m3_force) dX3_force_72 rfl rfl ?_
    refine r_iload_n (y := m3_force) dX3_force_73 rfl rfl ?_
    refine r_callV (y := m3_force) (As := [(.int a0)]) (b := 12) (ci := 3) dX3_force_74 rfl k3_choose lm_X3_231 rfl ⟨by decide, by decide⟩ (so_12 hm) (by decide) rfl (Nat.le_of_ble_eq_true rfl) (C.mono h ?_)
    rintro _ m8 ⟨rfl, hm9, h⟩
    refine ⟨none, rfl, ?_⟩
    refine r_goto (y := m3_force) (tgt := 172) dX3_force_77 (by decide) ?_
    exact r_ret (y := m3_force) dX3_force_172 rfl h
  by_cases hc10 : (mI m 14 (Int32.toNatClampNeg a0)) = 4
  · have h := h.2.2.1 hc10
    refine r_tableIn (y := m3_force) (x := (mI m 14 (Int32.toNatClampNeg a0))) (off := 51) (tgt := 80) dX3_force_29 (by rw [hc10]; decide) (by rw [hc10]; decide) (by rw [hc10]; rfl) (by decide) ?_
    refine r_aload_n (y := m3_force) dX3_force_80 rfl rfl ?_
    refine g_X3_21 (y := m3_force) rfl dX3_force_81 hm ?_
    refine r_iconst (y := m3_force) (v := 5) dX3_force_84 (by decide) ?_
    refine r_iload_n (y := m3_force) dX3_force_85 rfl rfl ?_
    refine r_callVN (y := m3_force) (As := [(.int 5), (.int a0)]) (b := 23) (ci := 9) dX3_force_86 rfl k9_push_ lm_X3_93 rfl ⟨by decide, by decide⟩ (so_23 hm) (by decide) rfl (Nat.le_of_ble_eq_true rfl) (C.mono h ?_)
    rintro _ m11 ⟨rfl, hm12, h⟩
    refine ⟨none, rfl, ?_⟩
    refine r_aload_n (y := m3_force) dX3_force_89 rfl rfl ?_
    refine g_X3_21 (y := m3_force) rfl dX3_force_90 hm12 ?_
    refine r_iconst (y := m3_force) (v := 4) dX3_force_93 (by decide) ?_
    refine r_iload_n (y := m3_force) dX3_force_94 rfl rfl ?_
    refine r_iload_n (y := m3_force) dX3_force_95 rfl rfl ?_
    refine r_iload_n (y := m3_force) dX3_force_96 rfl rfl ?_
    refine r_callVN (y := m3_force) (As := [(.int 4), (.int (mI m 16 (Int32.toNatClampNeg a0))), (.int (mI m 17 (Int32.toNatClampNeg a0))), (.int a0)]) (b := 23) (ci := 9) dX3_force_97 rfl k9_push lm_X3_186 rfl ⟨by decide, by decide⟩ (so_23 hm12) (by decide) rfl (Nat.le_of_ble_eq_true rfl) (C.mono h ?_)
    rintro _ m13 ⟨rfl, hm14, h⟩
    refine ⟨none, rfl, ?_⟩
    refine r_aload_n (y := m3_force) dX3_force_100 rfl rfl ?_
    refine g_X3_21 (y := m3_force) rfl dX3_force_101 hm14 ?_
    refine r_iconst (y := m3_force) (v := 1) dX3_force_104 (by decide) ?_
    refine r_iload_n (y := m3_force) dX3_force_105 rfl rfl ?_
    refine r_callVN (y := m3_force) (As := [(.int 1), (.int (mI m 17 (Int32.toNatClampNeg a0)))]) (b := 23) (ci := 9) dX3_force_106 rfl k9_push_ lm_X3_93 rfl ⟨by decide, by decide⟩ (so_23 hm14) (by decide) rfl (Nat.le_of_ble_eq_true rfl) (C.mono h ?_)
    rintro _ m15 ⟨rfl, hm16, h⟩
    refine ⟨none, rfl, ?_⟩
    refine r_aload_n (y := m3_force) dX3_force_109 rfl rfl ?_
    refine g_X3_21 (y := m3_force) rfl dX3_force_110 hm16 ?_
    refine r_iconst (y := m3_force) (v := 1) dX3_force_113 (by decide) ?_
    refine r_iload_n (y := m3_force) dX3_force_114 rfl rfl ?_
    refine r_callVN (y := m3_force) (As := [(.int 1), (.int (mI m 16 (Int32.toNatClampNeg a0)))]) (b := 23) (ci := 9) dX3_force_115 rfl k9_push_ lm_X3_93 rfl ⟨by decide, by decide⟩ (so_23 hm16) (by decide) rfl (Nat.le_of_ble_eq_true rfl) (C.mono h ?_)
    rintro _ m17 ⟨rfl, hm18, h⟩
    refine ⟨none, rfl, ?_⟩
    refine r_goto (y := m3_force) (tgt := 172) dX3_force_118 (by decide) ?_
    exact r_ret (y := m3_force) dX3_force_172 rfl h
  by_cases hc19 : (mI m 14 (Int32.toNatClampNeg a0)) = 5
  · have h := h.2.2.2.1 hc19
    refine r_tableIn (y := m3_force) (x := (mI m 14 (Int32.toNatClampNeg a0))) (off := 92) (tgt := 121) dX3_force_29 (by rw [hc19]; decide) (by rw [hc19]; decide) (by rw [hc19]; rfl) (by decide) ?_
    refine r_aload_n (y := m3_force) dX3_force_121 rfl rfl ?_
    refine g_X3_21 (y := m3_force) rfl dX3_force_122 hm ?_
    refine r_bipush (y := m3_force) (v := 7) dX3_force_125 (by decide) ?_
    refine r_iload_n (y := m3_force) dX3_force_127 rfl rfl ?_
    refine r_callVN (y := m3_force) (As := [(.int 7), (.int a0)]) (b := 23) (ci := 9) dX3_force_128 rfl k9_push_ lm_X3_93 rfl ⟨by decide, by decide⟩ (so_23 hm) (by decide) rfl (Nat.le_of_ble_eq_true rfl) (C.mono h ?_)
    rintro _ m20 ⟨rfl, hm21, h⟩
    refine ⟨none, rfl, ?_⟩
    refine r_aload_n (y := m3_force) dX3_force_131 rfl rfl ?_
    refine g_X3_21 (y := m3_force) rfl dX3_force_132 hm21 ?_
    refine r_bipush (y := m3_force) (v := 6) dX3_force_135 (by decide) ?_
    refine r_iload_n (y := m3_force) dX3_force_137 rfl rfl ?_
    refine r_iload_n (y := m3_force) dX3_force_138 rfl rfl ?_
    refine r_iload_n (y := m3_force) dX3_force_139 rfl rfl ?_
    refine r_callVN (y := m3_force) (As := [(.int 6), (.int (mI m 16 (Int32.toNatClampNeg a0))), (.int (mI m 17 (Int32.toNatClampNeg a0))), (.int a0)]) (b := 23) (ci := 9) dX3_force_140 rfl k9_push lm_X3_186 rfl ⟨by decide, by decide⟩ (so_23 hm21) (by decide) rfl (Nat.le_of_ble_eq_true rfl) (C.mono h ?_)
    rintro _ m22 ⟨rfl, hm23, h⟩
    refine ⟨none, rfl, ?_⟩
    refine r_aload_n (y := m3_force) dX3_force_143 rfl rfl ?_
    refine g_X3_21 (y := m3_force) rfl dX3_force_144 hm23 ?_
    refine r_iconst (y := m3_force) (v := 1) dX3_force_147 (by decide) ?_
    refine r_iload_n (y := m3_force) dX3_force_148 rfl rfl ?_
    refine r_callVN (y := m3_force) (As := [(.int 1), (.int (mI m 17 (Int32.toNatClampNeg a0)))]) (b := 23) (ci := 9) dX3_force_149 rfl k9_push_ lm_X3_93 rfl ⟨by decide, by decide⟩ (so_23 hm23) (by decide) rfl (Nat.le_of_ble_eq_true rfl) (C.mono h ?_)
    rintro _ m24 ⟨rfl, hm25, h⟩
    refine ⟨none, rfl, ?_⟩
    refine r_aload_n (y := m3_force) dX3_force_152 rfl rfl ?_
    refine g_X3_21 (y := m3_force) rfl dX3_force_153 hm25 ?_
    refine r_iconst (y := m3_force) (v := 1) dX3_force_156 (by decide) ?_
    refine r_iload_n (y := m3_force) dX3_force_157 rfl rfl ?_
    refine r_callVN (y := m3_force) (As := [(.int 1), (.int (mI m 16 (Int32.toNatClampNeg a0)))]) (b := 23) (ci := 9) dX3_force_158 rfl k9_push_ lm_X3_93 rfl ⟨by decide, by decide⟩ (so_23 hm25) (by decide) rfl (Nat.le_of_ble_eq_true rfl) (C.mono h ?_)
    rintro _ m26 ⟨rfl, hm27, h⟩
    refine ⟨none, rfl, ?_⟩
    refine r_goto (y := m3_force) (tgt := 172) dX3_force_161 (by decide) ?_
    exact r_ret (y := m3_force) dX3_force_172 rfl h
  by_cases hc28 : (mI m 14 (Int32.toNatClampNeg a0)) = 6
  · have h := h.2.2.2.2.1 hc28
    refine r_tableIn (y := m3_force) (x := (mI m 14 (Int32.toNatClampNeg a0))) (off := 135) (tgt := 164) dX3_force_29 (by rw [hc28]; decide) (by rw [hc28]; decide) (by rw [hc28]; rfl) (by decide) ?_
    refine r_aload_n (y := m3_force) dX3_force_164 rfl rfl ?_
    refine r_iload_n (y := m3_force) dX3_force_165 rfl rfl ?_
    refine r_callV (y := m3_force) (As := [(.int a0)]) (b := 12) (ci := 3) dX3_force_166 rfl k3_startSome lm_X3_234 rfl ⟨by decide, by decide⟩ (so_12 hm) (by decide) rfl (Nat.le_of_ble_eq_true rfl) (C.mono h ?_)
    rintro _ m29 ⟨rfl, hm30, h⟩
    refine ⟨none, rfl, ?_⟩
    refine r_goto (y := m3_force) (tgt := 172) dX3_force_169 (by decide) ?_
    exact r_ret (y := m3_force) dX3_force_172 rfl h
  have h := h.2.2.2.2.2 hc4 hc7 hc10 hc19 hc28
  have hc4 := lv_neT hc4 (a := 2) (by decide)
  have hc7 := lv_neT hc7 (a := 3) (by decide)
  have hc10 := lv_neT hc10 (a := 4) (by decide)
  have hc19 := lv_neT hc19 (a := 5) (by decide)
  have hc28 := lv_neT hc28 (a := 6) (by decide)
  refine r_tableOut (y := m3_force) (x := (mI m 14 (Int32.toNatClampNeg a0))) (tgt := 172) dX3_force_29 (by omega) (by decide) ?_
  exact r_ret (y := m3_force) dX3_force_172 rfl h
set_option maxHeartbeats 4000000 in
set_option maxRecDepth 100000 in
theorem w3_isForced {m : Mm} {K : Option Value ⊕ String → Mm → Prop} (hm : St m) {a0 : Int32}  (h : vp_in a0 3500 ∧ (((mI m 14 (Int32.toNatClampNeg a0)) = 7 → K (.inl (some (.int 1))) m) ∧ (¬ (mI m 14 (Int32.toNatClampNeg a0)) = 7 → vp_in a0 3500 ∧ ((¬ (mI m 14 (Int32.toNatClampNeg a0)) = 1 → K (.inl (some (.int 0))) m) ∧ ((mI m 14 (Int32.toNatClampNeg a0)) = 1 → K (.inl (some (.int 1))) m))))) : V m3_isForced 0 [some (.ref 12), some (.int a0)] [] m K := by
  refine r_aload_n (y := m3_isForced) dX3_isForced_0 rfl rfl ?_
  refine g_X3_12 (y := m3_isForced) rfl dX3_isForced_1 hm ?_
  refine g_X3_227 (y := m3_isForced) rfl dX3_isForced_4 hm ?_
  refine r_iload_n (y := m3_isForced) dX3_isForced_7 rfl rfl ?_
  obtain ⟨hb1, h⟩ := h
  refine r_iald (y := m3_isForced) (n := 3500) dX3_isForced_8 (sa_14 hm) hb1 ?_
  refine r_bipush (y := m3_isForced) (v := 7) dX3_isForced_9 (by decide) ?_
  refine r_icmp_eq (y := m3_isForced) (tgt := 27) dX3_isForced_11 (by decide) (fun hc2 => ?_) (fun hc2 => ?_)
  · have h := h.1 hc2
    refine r_iconst (y := m3_isForced) (v := 1) dX3_isForced_27 (by decide) ?_
    refine r_goto (y := m3_isForced) (tgt := 32) dX3_isForced_28 (by decide) ?_
    exact r_iret (y := m3_isForced) (ty := .boolean) dX3_isForced_32 rfl (by decide) h
  · have h := h.2 hc2
    refine r_aload_n (y := m3_isForced) dX3_isForced_14 rfl rfl ?_
    refine g_X3_12 (y := m3_isForced) rfl dX3_isForced_15 hm ?_
    refine g_X3_227 (y := m3_isForced) rfl dX3_isForced_18 hm ?_
    refine r_iload_n (y := m3_isForced) dX3_isForced_21 rfl rfl ?_
    obtain ⟨hb3, h⟩ := h
    refine r_iald (y := m3_isForced) (n := 3500) dX3_isForced_22 (sa_14 hm) hb3 ?_
    refine r_iconst (y := m3_isForced) (v := 1) dX3_isForced_23 (by decide) ?_
    refine r_icmp_ne (y := m3_isForced) (tgt := 31) dX3_isForced_24 (by decide) (fun hc4 => ?_) (fun hc4 => ?_)
    · have h := h.1 hc4
      refine r_iconst (y := m3_isForced) (v := 0) dX3_isForced_31 (by decide) ?_
      exact r_iret (y := m3_isForced) (ty := .boolean) dX3_isForced_32 rfl (by decide) h
    · have h := h.2 hc4
      refine r_iconst (y := m3_isForced) (v := 1) dX3_isForced_27 (by decide) ?_
      refine r_goto (y := m3_isForced) (tgt := 32) dX3_isForced_28 (by decide) ?_
      exact r_iret (y := m3_isForced) (ty := .boolean) dX3_isForced_32 rfl (by decide) h
set_option maxHeartbeats 4000000 in
set_option maxRecDepth 100000 in
theorem w3_makeWhole {m : Mm} {K : Option Value ⊕ String → Mm → Prop} (hm : St m) {a0 : Int32}  (h : C m3_isForced [(.ref 12), (.int a0)] m (fun o m1 => ∃ x3 : Int32, o = .inl (some (.int x3)) ∧ St m1 ∧ ((¬ x3 = 0 → vp_in a0 3500 ∧ ((¬ (mI m1 14 (Int32.toNatClampNeg a0)) = 1 → K (.inl none) m1) ∧ ((mI m1 14 (Int32.toNatClampNeg a0)) = 1 → vp_in a0 3500 ∧ vp_in (mI m1 12 9) 102 ∧ (((mI m1 20 (Int32.toNatClampNeg a0)) = (mI m1 (235 + 3 * (Int32.toNatClampNeg (mI m1 12 9))) 4) → K (.inl none) m1) ∧ (¬ (mI m1 20 (Int32.toNatClampNeg a0)) = (mI m1 (235 + 3 * (Int32.toNatClampNeg (mI m1 12 9))) 4) → vp_in (mI m1 12 9) 102 ∧ vp_in a0 3500 ∧ C m3_pushParts [(.ref 12), (.int a0)] (mSetI m1 20 (Int32.toNatClampNeg a0) (mI m1 (235 + 3 * (Int32.toNatClampNeg (mI m1 12 9))) 4)) (fun o m14 => o = .inl none ∧ St m14 ∧ K (.inl none) m14)))))) ∧ (x3 = 0 → C m9_push_ [(.ref 23), (.int 1), (.int a0)] m1 (fun o m16 => o = .inl none ∧ St m16 ∧ C m9_push_ [(.ref 23), (.int 0), (.int a0)] m16 (fun o m18 => o = .inl none ∧ St m18 ∧ K (.inl none) m18)))))) : V m3_makeWhole 0 [some (.ref 12), some (.int a0)] [] m K := by
  refine r_aload_n (y := m3_makeWhole) dX3_makeWhole_0 rfl rfl ?_
  refine r_iload_n (y := m3_makeWhole) dX3_makeWhole_1 rfl rfl ?_
  refine r_callV (y := m3_makeWhole) (As := [(.int a0)]) (b := 12) (ci := 3) dX3_makeWhole_2 rfl k3_isForced lm_X3_237 rfl ⟨by decide, by decide⟩ (so_12 hm) (by decide) rfl (Nat.le_of_ble_eq_true rfl) (C.mono h ?_)
  rintro _ m1 ⟨x3, rfl, hm2, h⟩
  refine ⟨_, rfl, ?_⟩
  refine r_if_ne (y := m3_makeWhole) (tgt := 29) dX3_makeWhole_5 (by decide) (fun hc4 => ?_) (fun hc4 => ?_)
  · have h := h.1 hc4
    refine r_aload_n (y := m3_makeWhole) dX3_makeWhole_29 rfl rfl ?_
    refine g_X3_12 (y := m3_makeWhole) rfl dX3_makeWhole_30 hm2 ?_
    refine g_X3_227 (y := m3_makeWhole) rfl dX3_makeWhole_33 hm2 ?_
    refine r_iload_n (y := m3_makeWhole) dX3_makeWhole_36 rfl rfl ?_
    obtain ⟨hb5, h⟩ := h
    refine r_iald (y := m3_makeWhole) (n := 3500) dX3_makeWhole_37 (sa_14 hm2) hb5 ?_
    refine r_iconst (y := m3_makeWhole) (v := 1) dX3_makeWhole_38 (by decide) ?_
    refine r_icmp_ne (y := m3_makeWhole) (tgt := 92) dX3_makeWhole_39 (by decide) (fun hc6 => ?_) (fun hc6 => ?_)
    · have h := h.1 hc6
      exact r_ret (y := m3_makeWhole) dX3_makeWhole_92 rfl h
    · have h := h.2 hc6
      refine r_aload_n (y := m3_makeWhole) dX3_makeWhole_42 rfl rfl ?_
      refine g_X3_12 (y := m3_makeWhole) rfl dX3_makeWhole_43 hm2 ?_
      refine g_X3_241 (y := m3_makeWhole) rfl dX3_makeWhole_46 hm2 ?_
      refine r_iload_n (y := m3_makeWhole) dX3_makeWhole_49 rfl rfl ?_
      obtain ⟨hb7, h⟩ := h
      refine r_iald (y := m3_makeWhole) (n := 3500) dX3_makeWhole_50 (sa_20 hm2) hb7 ?_
      refine r_aload_n (y := m3_makeWhole) dX3_makeWhole_51 rfl rfl ?_
      refine g_X3_33 (y := m3_makeWhole) rfl dX3_makeWhole_52 hm2 ?_
      refine r_aload_n (y := m3_makeWhole) dX3_makeWhole_55 rfl rfl ?_
      refine g_X3_48 (y := m3_makeWhole) rfl dX3_makeWhole_56 hm2 ?_
      obtain ⟨hb8, h⟩ := h
      have hl9 := vp_lt hb8
      refine r_aald (y := m3_makeWhole) (n := 102) (r := some (235 + 3 * (Int32.toNatClampNeg (mI m1 12 9)))) dX3_makeWhole_59 (sa_29 hm2) (by decide) (by decide) hb8 (sr_lv hm2 hl9) ?_
      refine g_X3_108 (y := m3_makeWhole) (i := (Int32.toNatClampNeg (mI m1 12 9))) rfl dX3_makeWhole_60 hm2 hl9 ?_
      refine r_icmp_eq (y := m3_makeWhole) (tgt := 92) dX3_makeWhole_63 (by decide) (fun hc10 => ?_) (fun hc10 => ?_)
      · have h := h.1 hc10
        exact r_ret (y := m3_makeWhole) dX3_makeWhole_92 rfl h
      · have h := h.2 hc10
        refine r_aload_n (y := m3_makeWhole) dX3_makeWhole_66 rfl rfl ?_
        refine g_X3_12 (y := m3_makeWhole) rfl dX3_makeWhole_67 hm2 ?_
        refine g_X3_241 (y := m3_makeWhole) rfl dX3_makeWhole_70 hm2 ?_
        refine r_iload_n (y := m3_makeWhole) dX3_makeWhole_73 rfl rfl ?_
        refine r_aload_n (y := m3_makeWhole) dX3_makeWhole_74 rfl rfl ?_
        refine g_X3_33 (y := m3_makeWhole) rfl dX3_makeWhole_75 hm2 ?_
        refine r_aload_n (y := m3_makeWhole) dX3_makeWhole_78 rfl rfl ?_
        refine g_X3_48 (y := m3_makeWhole) rfl dX3_makeWhole_79 hm2 ?_
        obtain ⟨hb11, h⟩ := h
        have hl12 := vp_lt hb11
        refine r_aald (y := m3_makeWhole) (n := 102) (r := some (235 + 3 * (Int32.toNatClampNeg (mI m1 12 9)))) dX3_makeWhole_82 (sa_29 hm2) (by decide) (by decide) hb11 (sr_lv hm2 hl12) ?_
        refine g_X3_108 (y := m3_makeWhole) (i := (Int32.toNatClampNeg (mI m1 12 9))) rfl dX3_makeWhole_83 hm2 hl12 ?_
        obtain ⟨hb13, h⟩ := h
        refine r_iast (y := m3_makeWhole) (n := 3500) dX3_makeWhole_86 (sa_20 hm2) hb13 ?_
        refine r_aload_n (y := m3_makeWhole) dX3_makeWhole_87 rfl rfl ?_
        refine r_iload_n (y := m3_makeWhole) dX3_makeWhole_88 rfl rfl ?_
        refine r_callV (y := m3_makeWhole) (As := [(.int a0)]) (b := 12) (ci := 3) dX3_makeWhole_89 rfl k3_pushParts lm_X3_244 rfl ⟨by decide, by decide⟩ (so_12 (St.i hm2)) (by decide) rfl (Nat.le_of_ble_eq_true rfl) (C.mono h ?_)
        rintro _ m14 ⟨rfl, hm15, h⟩
        refine ⟨none, rfl, ?_⟩
        exact r_ret (y := m3_makeWhole) dX3_makeWhole_92 rfl h
  · have h := h.2 hc4
    refine r_aload_n (y := m3_makeWhole) dX3_makeWhole_8 rfl rfl ?_
    refine g_X3_21 (y := m3_makeWhole) rfl dX3_makeWhole_9 hm2 ?_
    refine r_iconst (y := m3_makeWhole) (v := 1) dX3_makeWhole_12 (by decide) ?_
    refine r_iload_n (y := m3_makeWhole) dX3_makeWhole_13 rfl rfl ?_
    refine r_callVN (y := m3_makeWhole) (As := [(.int 1), (.int a0)]) (b := 23) (ci := 9) dX3_makeWhole_14 rfl k9_push_ lm_X3_93 rfl ⟨by decide, by decide⟩ (so_23 hm2) (by decide) rfl (Nat.le_of_ble_eq_true rfl) (C.mono h ?_)
    rintro _ m16 ⟨rfl, hm17, h⟩
    refine ⟨none, rfl, ?_⟩
    refine r_aload_n (y := m3_makeWhole) dX3_makeWhole_17 rfl rfl ?_
    refine g_X3_21 (y := m3_makeWhole) rfl dX3_makeWhole_18 hm17 ?_
    refine r_iconst (y := m3_makeWhole) (v := 0) dX3_makeWhole_21 (by decide) ?_
    refine r_iload_n (y := m3_makeWhole) dX3_makeWhole_22 rfl rfl ?_
    refine r_callVN (y := m3_makeWhole) (As := [(.int 0), (.int a0)]) (b := 23) (ci := 9) dX3_makeWhole_23 rfl k9_push_ lm_X3_93 rfl ⟨by decide, by decide⟩ (so_23 hm17) (by decide) rfl (Nat.le_of_ble_eq_true rfl) (C.mono h ?_)
    rintro _ m18 ⟨rfl, hm19, h⟩
    refine ⟨none, rfl, ?_⟩
    refine r_goto (y := m3_makeWhole) (tgt := 92) dX3_makeWhole_26 (by decide) ?_
    exact r_ret (y := m3_makeWhole) dX3_makeWhole_92 rfl h
set_option maxHeartbeats 4000000 in
set_option maxRecDepth 100000 in
theorem w3_pushParts {m : Mm} {K : Option Value ⊕ String → Mm → Prop} (hm : St m) {a0 : Int32}  (h : vp_in a0 3500 ∧ C m11_partsOfKind [(.int (mI m 15 (Int32.toNatClampNeg a0)))] m (fun o m2 => ∃ x4 : Int32, o = .inl (some (.int x4)) ∧ St m2 ∧ ((x4 ≤ 1 → ((x4 ≤ 0 → K (.inl none) m2) ∧ (¬ x4 ≤ 0 → vp_in a0 3500 ∧ C m9_push_ [(.ref 23), (.int 1), (.int (mI m2 16 (Int32.toNatClampNeg a0)))] m2 (fun o m8 => o = .inl none ∧ St m8 ∧ K (.inl none) m8)))) ∧ (¬ x4 ≤ 1 → vp_in a0 3500 ∧ C m9_push_ [(.ref 23), (.int 1), (.int (mI m2 17 (Int32.toNatClampNeg a0)))] m2 (fun o m11 => o = .inl none ∧ St m11 ∧ ((x4 ≤ 0 → K (.inl none) m11) ∧ (¬ x4 ≤ 0 → vp_in a0 3500 ∧ C m9_push_ [(.ref 23), (.int 1), (.int (mI m11 16 (Int32.toNatClampNeg a0)))] m11 (fun o m15 => o = .inl none ∧ St m15 ∧ K (.inl none) m15)))))))) : V m3_pushParts 0 [some (.ref 12), some (.int a0), none] [] m K := by
  refine r_aload_n (y := m3_pushParts) dX3_pushParts_0 rfl rfl ?_
  refine g_X3_12 (y := m3_pushParts) rfl dX3_pushParts_1 hm ?_
  refine g_X3_247 (y := m3_pushParts) rfl dX3_pushParts_4 hm ?_
  refine r_iload_n (y := m3_pushParts) dX3_pushParts_7 rfl rfl ?_
  obtain ⟨hb1, h⟩ := h
  refine r_iald (y := m3_pushParts) (n := 3500) dX3_pushParts_8 (sa_15 hm) hb1 ?_
  refine r_callSN (y := m3_pushParts) (As := [(.int (mI m 15 (Int32.toNatClampNeg a0)))]) dX3_pushParts_9 rfl k11_partsOfKind lm_X3_248 rfl ⟨by decide, by decide⟩ (Nat.le_of_ble_eq_true rfl) (C.mono h ?_)
  rintro _ m2 ⟨x4, rfl, hm3, h⟩
  refine ⟨_, rfl, ?_⟩
  refine r_istore_n (y := m3_pushParts) (L' := [some (.ref 12), some (.int a0), some (.int x4)]) dX3_pushParts_12 rfl (Nat.le_of_ble_eq_true rfl) rfl ?_
  refine r_iload_n (y := m3_pushParts) dX3_pushParts_13 rfl rfl ?_
  refine r_iconst (y := m3_pushParts) (v := 1) dX3_pushParts_14 (by decide) ?_
  refine r_icmp_le (y := m3_pushParts) (tgt := 35) dX3_pushParts_15 (by decide) (fun hc5 => ?_) (fun hc5 => ?_)
  · have h := h.1 hc5
    refine r_iload_n (y := m3_pushParts) dX3_pushParts_35 rfl rfl ?_
    refine r_if_le (y := m3_pushParts) (tgt := 56) dX3_pushParts_36 (by decide) (fun hc6 => ?_) (fun hc6 => ?_)
    · have h := h.1 hc6
      exact r_ret (y := m3_pushParts) dX3_pushParts_56 rfl h
    · have h := h.2 hc6
      refine r_aload_n (y := m3_pushParts) dX3_pushParts_39 rfl rfl ?_
      refine g_X3_21 (y := m3_pushParts) rfl dX3_pushParts_40 hm3 ?_
      refine r_iconst (y := m3_pushParts) (v := 1) dX3_pushParts_43 (by decide) ?_
      refine r_aload_n (y := m3_pushParts) dX3_pushParts_44 rfl rfl ?_
      refine g_X3_12 (y := m3_pushParts) rfl dX3_pushParts_45 hm3 ?_
      refine g_X3_225 (y := m3_pushParts) rfl dX3_pushParts_48 hm3 ?_
      refine r_iload_n (y := m3_pushParts) dX3_pushParts_51 rfl rfl ?_
      obtain ⟨hb7, h⟩ := h
      refine r_iald (y := m3_pushParts) (n := 3500) dX3_pushParts_52 (sa_16 hm3) hb7 ?_
      refine r_callVN (y := m3_pushParts) (As := [(.int 1), (.int (mI m2 16 (Int32.toNatClampNeg a0)))]) (b := 23) (ci := 9) dX3_pushParts_53 rfl k9_push_ lm_X3_93 rfl ⟨by decide, by decide⟩ (so_23 hm3) (by decide) rfl (Nat.le_of_ble_eq_true rfl) (C.mono h ?_)
      rintro _ m8 ⟨rfl, hm9, h⟩
      refine ⟨none, rfl, ?_⟩
      exact r_ret (y := m3_pushParts) dX3_pushParts_56 rfl h
  · have h := h.2 hc5
    refine r_aload_n (y := m3_pushParts) dX3_pushParts_18 rfl rfl ?_
    refine g_X3_21 (y := m3_pushParts) rfl dX3_pushParts_19 hm3 ?_
    refine r_iconst (y := m3_pushParts) (v := 1) dX3_pushParts_22 (by decide) ?_
    refine r_aload_n (y := m3_pushParts) dX3_pushParts_23 rfl rfl ?_
    refine g_X3_12 (y := m3_pushParts) rfl dX3_pushParts_24 hm3 ?_
    refine g_X3_226 (y := m3_pushParts) rfl dX3_pushParts_27 hm3 ?_
    refine r_iload_n (y := m3_pushParts) dX3_pushParts_30 rfl rfl ?_
    obtain ⟨hb10, h⟩ := h
    refine r_iald (y := m3_pushParts) (n := 3500) dX3_pushParts_31 (sa_17 hm3) hb10 ?_
    refine r_callVN (y := m3_pushParts) (As := [(.int 1), (.int (mI m2 17 (Int32.toNatClampNeg a0)))]) (b := 23) (ci := 9) dX3_pushParts_32 rfl k9_push_ lm_X3_93 rfl ⟨by decide, by decide⟩ (so_23 hm3) (by decide) rfl (Nat.le_of_ble_eq_true rfl) (C.mono h ?_)
    rintro _ m11 ⟨rfl, hm12, h⟩
    refine ⟨none, rfl, ?_⟩
    refine r_iload_n (y := m3_pushParts) dX3_pushParts_35 rfl rfl ?_
    refine r_if_le (y := m3_pushParts) (tgt := 56) dX3_pushParts_36 (by decide) (fun hc13 => ?_) (fun hc13 => ?_)
    · have h := h.1 hc13
      exact r_ret (y := m3_pushParts) dX3_pushParts_56 rfl h
    · have h := h.2 hc13
      refine r_aload_n (y := m3_pushParts) dX3_pushParts_39 rfl rfl ?_
      refine g_X3_21 (y := m3_pushParts) rfl dX3_pushParts_40 hm12 ?_
      refine r_iconst (y := m3_pushParts) (v := 1) dX3_pushParts_43 (by decide) ?_
      refine r_aload_n (y := m3_pushParts) dX3_pushParts_44 rfl rfl ?_
      refine g_X3_12 (y := m3_pushParts) rfl dX3_pushParts_45 hm12 ?_
      refine g_X3_225 (y := m3_pushParts) rfl dX3_pushParts_48 hm12 ?_
      refine r_iload_n (y := m3_pushParts) dX3_pushParts_51 rfl rfl ?_
      obtain ⟨hb14, h⟩ := h
      refine r_iald (y := m3_pushParts) (n := 3500) dX3_pushParts_52 (sa_16 hm12) hb14 ?_
      refine r_callVN (y := m3_pushParts) (As := [(.int 1), (.int (mI m11 16 (Int32.toNatClampNeg a0)))]) (b := 23) (ci := 9) dX3_pushParts_53 rfl k9_push_ lm_X3_93 rfl ⟨by decide, by decide⟩ (so_23 hm12) (by decide) rfl (Nat.le_of_ble_eq_true rfl) (C.mono h ?_)
      rintro _ m15 ⟨rfl, hm16, h⟩
      refine ⟨none, rfl, ?_⟩
      exact r_ret (y := m3_pushParts) dX3_pushParts_56 rfl h
set_option maxHeartbeats 4000000 in
set_option maxRecDepth 100000 in
theorem w3_choose {m : Mm} {K : Option Value ⊕ String → Mm → Prop} (hm : St m) {a0 : Int32}  (h : vp_in a0 3500 ∧ C m3_decide [(.ref 12), (.int (mI m 19 (Int32.toNatClampNeg a0))), (.int 2)] m (fun o m2 => ∃ x4 : Int32, o = .inl (some (.int x4)) ∧ St m2 ∧ ((x4 = (-1) → K (.inl none) m2) ∧ (¬ x4 = (-1) → ((¬ x4 = 0 → vp_in a0 3500 ∧ C m10_become [(.ref 13), (.int a0), (.int (mI m2 17 (Int32.toNatClampNeg a0)))] m2 (fun o m8 => o = .inl none ∧ St m8 ∧ C m9_push_ [(.ref 23), (.int 0), (.int a0)] m8 (fun o m10 => o = .inl none ∧ St m10 ∧ K (.inl none) m10))) ∧ (x4 = 0 → vp_in a0 3500 ∧ C m10_become [(.ref 13), (.int a0), (.int (mI m2 16 (Int32.toNatClampNeg a0)))] m2 (fun o m13 => o = .inl none ∧ St m13 ∧ C m9_push_ [(.ref 23), (.int 0), (.int a0)] m13 (fun o m15 => o = .inl none ∧ St m15 ∧ K (.inl none) m15)))))))) : V m3_choose 0 [some (.ref 12), some (.int a0), none] [] m K := by
  refine r_aload_n (y := m3_choose) dX3_choose_0 rfl rfl ?_
  refine r_aload_n (y := m3_choose) dX3_choose_1 rfl rfl ?_
  refine g_X3_12 (y := m3_choose) rfl dX3_choose_2 hm ?_
  refine g_X3_141 (y := m3_choose) rfl dX3_choose_5 hm ?_
  refine r_iload_n (y := m3_choose) dX3_choose_8 rfl rfl ?_
  obtain ⟨hb1, h⟩ := h
  refine r_iald (y := m3_choose) (n := 3500) dX3_choose_9 (sa_19 hm) hb1 ?_
  refine r_iconst (y := m3_choose) (v := 2) dX3_choose_10 (by decide) ?_
  refine r_callV (y := m3_choose) (As := [(.int (mI m 19 (Int32.toNatClampNeg a0))), (.int 2)]) (b := 12) (ci := 3) dX3_choose_11 rfl k3_decide lm_X3_251 rfl ⟨by decide, by decide⟩ (so_12 hm) (by decide) rfl (Nat.le_of_ble_eq_true rfl) (C.mono h ?_)
  rintro _ m2 ⟨x4, rfl, hm3, h⟩
  refine ⟨_, rfl, ?_⟩
  refine r_istore_n (y := m3_choose) (L' := [some (.ref 12), some (.int a0), some (.int x4)]) dX3_choose_14 rfl (Nat.le_of_ble_eq_true rfl) rfl ?_
  refine r_iload_n (y := m3_choose) dX3_choose_15 rfl rfl ?_
  refine r_iconst (y := m3_choose) (v := (-1)) dX3_choose_16 (by decide) ?_
  refine r_icmp_eq (y := m3_choose) (tgt := 62) dX3_choose_17 (by decide) (fun hc5 => ?_) (fun hc5 => ?_)
  · have h := h.1 hc5
    exact r_ret (y := m3_choose) dX3_choose_62 rfl h
  · have h := h.2 hc5
    refine r_aload_n (y := m3_choose) dX3_choose_20 rfl rfl ?_
    refine g_X3_12 (y := m3_choose) rfl dX3_choose_21 hm3 ?_
    refine r_iload_n (y := m3_choose) dX3_choose_24 rfl rfl ?_
    refine r_iload_n (y := m3_choose) dX3_choose_25 rfl rfl ?_
    refine r_if_ne (y := m3_choose) (tgt := 41) dX3_choose_26 (by decide) (fun hc6 => ?_) (fun hc6 => ?_)
    · have h := h.1 hc6
      refine r_aload_n (y := m3_choose) dX3_choose_41 rfl rfl ?_
      refine g_X3_12 (y := m3_choose) rfl dX3_choose_42 hm3 ?_
      refine g_X3_226 (y := m3_choose) rfl dX3_choose_45 hm3 ?_
      refine r_iload_n (y := m3_choose) dX3_choose_48 rfl rfl ?_
      obtain ⟨hb7, h⟩ := h
      refine r_iald (y := m3_choose) (n := 3500) dX3_choose_49 (sa_17 hm3) hb7 ?_
      refine r_callVN (y := m3_choose) (As := [(.int a0), (.int (mI m2 17 (Int32.toNatClampNeg a0)))]) (b := 13) (ci := 10) dX3_choose_50 rfl k10_become lm_X3_255 rfl ⟨by decide, by decide⟩ (so_13 hm3) (by decide) rfl (Nat.le_of_ble_eq_true rfl) (C.mono h ?_)
      rintro _ m8 ⟨rfl, hm9, h⟩
      refine ⟨none, rfl, ?_⟩
      refine r_aload_n (y := m3_choose) dX3_choose_53 rfl rfl ?_
      refine g_X3_21 (y := m3_choose) rfl dX3_choose_54 hm9 ?_
      refine r_iconst (y := m3_choose) (v := 0) dX3_choose_57 (by decide) ?_
      refine r_iload_n (y := m3_choose) dX3_choose_58 rfl rfl ?_
      refine r_callVN (y := m3_choose) (As := [(.int 0), (.int a0)]) (b := 23) (ci := 9) dX3_choose_59 rfl k9_push_ lm_X3_93 rfl ⟨by decide, by decide⟩ (so_23 hm9) (by decide) rfl (Nat.le_of_ble_eq_true rfl) (C.mono h ?_)
      rintro _ m10 ⟨rfl, hm11, h⟩
      refine ⟨none, rfl, ?_⟩
      exact r_ret (y := m3_choose) dX3_choose_62 rfl h
    · have h := h.2 hc6
      refine r_aload_n (y := m3_choose) dX3_choose_29 rfl rfl ?_
      refine g_X3_12 (y := m3_choose) rfl dX3_choose_30 hm3 ?_
      refine g_X3_225 (y := m3_choose) rfl dX3_choose_33 hm3 ?_
      refine r_iload_n (y := m3_choose) dX3_choose_36 rfl rfl ?_
      obtain ⟨hb12, h⟩ := h
      refine r_iald (y := m3_choose) (n := 3500) dX3_choose_37 (sa_16 hm3) hb12 ?_
      refine r_goto (y := m3_choose) (tgt := 50) dX3_choose_38 (by decide) ?_
      refine r_callVN (y := m3_choose) (As := [(.int a0), (.int (mI m2 16 (Int32.toNatClampNeg a0)))]) (b := 13) (ci := 10) dX3_choose_50 rfl k10_become lm_X3_255 rfl ⟨by decide, by decide⟩ (so_13 hm3) (by decide) rfl (Nat.le_of_ble_eq_true rfl) (C.mono h ?_)
      rintro _ m13 ⟨rfl, hm14, h⟩
      refine ⟨none, rfl, ?_⟩
      refine r_aload_n (y := m3_choose) dX3_choose_53 rfl rfl ?_
      refine g_X3_21 (y := m3_choose) rfl dX3_choose_54 hm14 ?_
      refine r_iconst (y := m3_choose) (v := 0) dX3_choose_57 (by decide) ?_
      refine r_iload_n (y := m3_choose) dX3_choose_58 rfl rfl ?_
      refine r_callVN (y := m3_choose) (As := [(.int 0), (.int a0)]) (b := 23) (ci := 9) dX3_choose_59 rfl k9_push_ lm_X3_93 rfl ⟨by decide, by decide⟩ (so_23 hm14) (by decide) rfl (Nat.le_of_ble_eq_true rfl) (C.mono h ?_)
      rintro _ m15 ⟨rfl, hm16, h⟩
      refine ⟨none, rfl, ?_⟩
      exact r_ret (y := m3_choose) dX3_choose_62 rfl h
set_option maxHeartbeats 4000000 in
set_option maxRecDepth 100000 in
theorem w3_startCall {m : Mm} {K : Option Value ⊕ String → Mm → Prop} (hm : St m) {a0 : Int32}  (h : vp_in a0 3500 ∧ vp_in a0 3500 ∧ C m5_rulesOf [(.ref 7), (.int (mI m 15 (Int32.toNatClampNeg a0)))] m (fun o m3 => ∃ x5 : Int32, o = .inl (some (.int x5)) ∧ St m3 ∧ ((¬ x5 = 0 → ((x5 ≤ 1 → ((¬ (0 : Int32) = (-1) → C m5_ruleOf [(.ref 7), (.int (mI m 15 (Int32.toNatClampNeg a0))), (.int 0)] m3 (fun o m9 => ∃ z11 : Option Nat, o = .inl (some (va_rf z11)) ∧ St m9 ∧ (z11 = none → V m3_startCall 94 [some (.ref 12), some (.int a0), some (.int (mI m 19 (Int32.toNatClampNeg a0))), some (.int (mI m 15 (Int32.toNatClampNeg a0))), some (.int x5), some (.int 0), some .null] [] m9 K) ∧ (∀ q12 : Nat, z11 = some q12 → C m3_doStep [(.ref 12)] m9 (fun o m13 => ∃ x15 : Int32, o = .inl (some (.int x15)) ∧ St m13 ∧ ((¬ x15 = 0 → isRul m13 q12 ∧ ((mR m13 q12 0 = none → ((mR m13 q12 1 = none → ∃ q22 : Nat, mR m13 q12 2 = some q22 ∧ C m3_openScope [(.ref 12), .null, .null, (.ref q22)] m13 (fun o m24 => ∃ x26 : Int32, o = .inl (some (.int x26)) ∧ St m24 ∧ vp_in a0 3500 ∧ C m9_push_ [(.ref 23), (.int 3), (.int a0)] (mSetI m24 18 (Int32.toNatClampNeg a0) x26) (fun o m28 => o = .inl none ∧ St m28 ∧ isRul m28 q12 ∧ ((mR m28 q12 1 = none → V m3_startCall 171 [some (.ref 12), some (.int a0), some (.int (mI m 19 (Int32.toNatClampNeg a0))), some (.int (mI m 15 (Int32.toNatClampNeg a0))), some (.int x5), some (.int 0), some (.ref q12)] [] m28 K) ∧ (∀ q31 : Nat, mR m28 q12 1 = some q31 → ∃ n36 : Nat, isExp m28 q31 n36 ∧ vp_in a0 3500 ∧ C m9_push [(.ref 23), (.int 2), (.int ((12 + (mI m28 q31 0)) - 1)), (.int (mI m28 17 (Int32.toNatClampNeg a0))), (.int a0)] m28 (fun o m38 => o = .inl none ∧ St m38 ∧ V m3_startCall 171 [some (.ref 12), some (.int a0), some (.int (mI m 19 (Int32.toNatClampNeg a0))), some (.int (mI m 15 (Int32.toNatClampNeg a0))), some (.int x5), some (.int 0), some (.ref q12)] [] m38 K)))))) ∧ (∀ q20 : Nat, mR m13 q12 1 = some q20 → ∃ q40 : Nat, mR m13 q12 2 = some q40 ∧ C m3_openScope [(.ref 12), .null, (.ref q20), (.ref q40)] m13 (fun o m42 => ∃ x44 : Int32, o = .inl (some (.int x44)) ∧ St m42 ∧ vp_in a0 3500 ∧ C m9_push_ [(.ref 23), (.int 3), (.int a0)] (mSetI m42 18 (Int32.toNatClampNeg a0) x44) (fun o m46 => o = .inl none ∧ St m46 ∧ isRul m46 q12 ∧ ((mR m46 q12 1 = none → V m3_startCall 171 [some (.ref 12), some (.int a0), some (.int (mI m 19 (Int32.toNatClampNeg a0))), some (.int (mI m 15 (Int32.toNatClampNeg a0))), some (.int x5), some (.int 0), some (.ref q12)] [] m46 K) ∧ (∀ q49 : Nat, mR m46 q12 1 = some q49 → ∃ n54 : Nat, isExp m46 q49 n54 ∧ vp_in a0 3500 ∧ C m9_push [(.ref 23), (.int 2), (.int ((12 + (mI m46 q49 0)) - 1)), (.int (mI m46 17 (Int32.toNatClampNeg a0))), (.int a0)] m46 (fun o m56 => o = .inl none ∧ St m56 ∧ V m3_startCall 171 [some (.ref 12), some (.int a0), some (.int (mI m 19 (Int32.toNatClampNeg a0))), some (.int (mI m 15 (Int32.toNatClampNeg a0))), some (.int x5), some (.int 0), some (.ref q12)] [] m56 K)))))))) ∧ (∀ q18 : Nat, mR m13 q12 0 = some q18 → ((mR m13 q12 1 = none → ∃ q60 : Nat, mR m13 q12 2 = some q60 ∧ C m3_openScope [(.ref 12), (.ref q18), .null, (.ref q60)] m13 (fun o m62 => ∃ x64 : Int32, o = .inl (some (.int x64)) ∧ St m62 ∧ vp_in a0 3500 ∧ C m9_push_ [(.ref 23), (.int 3), (.int a0)] (mSetI m62 18 (Int32.toNatClampNeg a0) x64) (fun o m66 => o = .inl none ∧ St m66 ∧ isRul m66 q12 ∧ ((mR m66 q12 1 = none → V m3_startCall 171 [some (.ref 12), some (.int a0), some (.int (mI m 19 (Int32.toNatClampNeg a0))), some (.int (mI m 15 (Int32.toNatClampNeg a0))), some (.int x5), some (.int 0), some (.ref q12)] [] m66 K) ∧ (∀ q69 : Nat, mR m66 q12 1 = some q69 → ∃ n74 : Nat, isExp m66 q69 n74 ∧ vp_in a0 3500 ∧ C m9_push [(.ref 23), (.int 2), (.int ((12 + (mI m66 q69 0)) - 1)), (.int (mI m66 17 (Int32.toNatClampNeg a0))), (.int a0)] m66 (fun o m76 => o = .inl none ∧ St m76 ∧ V m3_startCall 171 [some (.ref 12), some (.int a0), some (.int (mI m 19 (Int32.toNatClampNeg a0))), some (.int (mI m 15 (Int32.toNatClampNeg a0))), some (.int x5), some (.int 0), some (.ref q12)] [] m76 K)))))) ∧ (∀ q58 : Nat, mR m13 q12 1 = some q58 → ∃ q78 : Nat, mR m13 q12 2 = some q78 ∧ C m3_openScope [(.ref 12), (.ref q18), (.ref q58), (.ref q78)] m13 (fun o m80 => ∃ x82 : Int32, o = .inl (some (.int x82)) ∧ St m80 ∧ vp_in a0 3500 ∧ C m9_push_ [(.ref 23), (.int 3), (.int a0)] (mSetI m80 18 (Int32.toNatClampNeg a0) x82) (fun o m84 => o = .inl none ∧ St m84 ∧ isRul m84 q12 ∧ ((mR m84 q12 1 = none → V m3_startCall 171 [some (.ref 12), some (.int a0), some (.int (mI m 19 (Int32.toNatClampNeg a0))), some (.int (mI m 15 (Int32.toNatClampNeg a0))), some (.int x5), some (.int 0), some (.ref q12)] [] m84 K) ∧ (∀ q87 : Nat, mR m84 q12 1 = some q87 → ∃ n92 : Nat, isExp m84 q87 n92 ∧ vp_in a0 3500 ∧ C m9_push [(.ref 23), (.int 2), (.int ((12 + (mI m84 q87 0)) - 1)), (.int (mI m84 17 (Int32.toNatClampNeg a0))), (.int a0)] m84 (fun o m94 => o = .inl none ∧ St m94 ∧ V m3_startCall 171 [some (.ref 12), some (.int a0), some (.int (mI m 19 (Int32.toNatClampNeg a0))), some (.int (mI m 15 (Int32.toNatClampNeg a0))), some (.int x5), some (.int 0), some (.ref q12)] [] m94 K)))))))))) ∧ (x15 = 0 → V m3_startCall 94 [some (.ref 12), some (.int a0), some (.int (mI m 19 (Int32.toNatClampNeg a0))), some (.int (mI m 15 (Int32.toNatClampNeg a0))), some (.int x5), some (.int 0), some (.ref q12)] [] m13 K)))))) ∧ ((0 : Int32) = (-1) → V m3_startCall 94 [some (.ref 12), some (.int a0), some (.int (mI m 19 (Int32.toNatClampNeg a0))), some (.int (mI m 15 (Int32.toNatClampNeg a0))), some (.int x5), some (.int 0), some .null] [] m3 K))) ∧ (¬ x5 ≤ 1 → C m3_decide [(.ref 12), (.int (mI m 19 (Int32.toNatClampNeg a0))), (.int x5)] m3 (fun o m96 => ∃ x98 : Int32, o = .inl (some (.int x98)) ∧ St m96 ∧ ((¬ x98 = (-1) → C m5_ruleOf [(.ref 7), (.int (mI m 15 (Int32.toNatClampNeg a0))), (.int x98)] m96 (fun o m100 => ∃ z102 : Option Nat, o = .inl (some (va_rf z102)) ∧ St m100 ∧ (z102 = none → V m3_startCall 94 [some (.ref 12), some (.int a0), some (.int (mI m 19 (Int32.toNatClampNeg a0))), some (.int (mI m 15 (Int32.toNatClampNeg a0))), some (.int x5), some (.int x98), some .null] [] m100 K) ∧ (∀ q103 : Nat, z102 = some q103 → C m3_doStep [(.ref 12)] m100 (fun o m104 => ∃ x106 : Int32, o = .inl (some (.int x106)) ∧ St m104 ∧ ((¬ x106 = 0 → isRul m104 q103 ∧ ((mR m104 q103 0 = none → ((mR m104 q103 1 = none → ∃ q113 : Nat, mR m104 q103 2 = some q113 ∧ C m3_openScope [(.ref 12), .null, .null, (.ref q113)] m104 (fun o m115 => ∃ x117 : Int32, o = .inl (some (.int x117)) ∧ St m115 ∧ vp_in a0 3500 ∧ C m9_push_ [(.ref 23), (.int 3), (.int a0)] (mSetI m115 18 (Int32.toNatClampNeg a0) x117) (fun o m119 => o = .inl none ∧ St m119 ∧ isRul m119 q103 ∧ ((mR m119 q103 1 = none → V m3_startCall 171 [some (.ref 12), some (.int a0), some (.int (mI m 19 (Int32.toNatClampNeg a0))), some (.int (mI m 15 (Int32.toNatClampNeg a0))), some (.int x5), some (.int x98), some (.ref q103)] [] m119 K) ∧ (∀ q122 : Nat, mR m119 q103 1 = some q122 → ∃ n127 : Nat, isExp m119 q122 n127 ∧ vp_in a0 3500 ∧ C m9_push [(.ref 23), (.int 2), (.int ((12 + (mI m119 q122 0)) - 1)), (.int (mI m119 17 (Int32.toNatClampNeg a0))), (.int a0)] m119 (fun o m129 => o = .inl none ∧ St m129 ∧ V m3_startCall 171 [some (.ref 12), some (.int a0), some (.int (mI m 19 (Int32.toNatClampNeg a0))), some (.int (mI m 15 (Int32.toNatClampNeg a0))), some (.int x5), some (.int x98), some (.ref q103)] [] m129 K)))))) ∧ (∀ q111 : Nat, mR m104 q103 1 = some q111 → ∃ q131 : Nat, mR m104 q103 2 = some q131 ∧ C m3_openScope [(.ref 12), .null, (.ref q111), (.ref q131)] m104 (fun o m133 => ∃ x135 : Int32, o = .inl (some (.int x135)) ∧ St m133 ∧ vp_in a0 3500 ∧ C m9_push_ [(.ref 23), (.int 3), (.int a0)] (mSetI m133 18 (Int32.toNatClampNeg a0) x135) (fun o m137 => o = .inl none ∧ St m137 ∧ isRul m137 q103 ∧ ((mR m137 q103 1 = none → V m3_startCall 171 [some (.ref 12), some (.int a0), some (.int (mI m 19 (Int32.toNatClampNeg a0))), some (.int (mI m 15 (Int32.toNatClampNeg a0))), some (.int x5), some (.int x98), some (.ref q103)] [] m137 K) ∧ (∀ q140 : Nat, mR m137 q103 1 = some q140 → ∃ n145 : Nat, isExp m137 q140 n145 ∧ vp_in a0 3500 ∧ C m9_push [(.ref 23), (.int 2), (.int ((12 + (mI m137 q140 0)) - 1)), (.int (mI m137 17 (Int32.toNatClampNeg a0))), (.int a0)] m137 (fun o m147 => o = .inl none ∧ St m147 ∧ V m3_startCall 171 [some (.ref 12), some (.int a0), some (.int (mI m 19 (Int32.toNatClampNeg a0))), some (.int (mI m 15 (Int32.toNatClampNeg a0))), some (.int x5), some (.int x98), some (.ref q103)] [] m147 K)))))))) ∧ (∀ q109 : Nat, mR m104 q103 0 = some q109 → ((mR m104 q103 1 = none → ∃ q151 : Nat, mR m104 q103 2 = some q151 ∧ C m3_openScope [(.ref 12), (.ref q109), .null, (.ref q151)] m104 (fun o m153 => ∃ x155 : Int32, o = .inl (some (.int x155)) ∧ St m153 ∧ vp_in a0 3500 ∧ C m9_push_ [(.ref 23), (.int 3), (.int a0)] (mSetI m153 18 (Int32.toNatClampNeg a0) x155) (fun o m157 => o = .inl none ∧ St m157 ∧ isRul m157 q103 ∧ ((mR m157 q103 1 = none → V m3_startCall 171 [some (.ref 12), some (.int a0), some (.int (mI m 19 (Int32.toNatClampNeg a0))), some (.int (mI m 15 (Int32.toNatClampNeg a0))), some (.int x5), some (.int x98), some (.ref q103)] [] m157 K) ∧ (∀ q160 : Nat, mR m157 q103 1 = some q160 → ∃ n165 : Nat, isExp m157 q160 n165 ∧ vp_in a0 3500 ∧ C m9_push [(.ref 23), (.int 2), (.int ((12 + (mI m157 q160 0)) - 1)), (.int (mI m157 17 (Int32.toNatClampNeg a0))), (.int a0)] m157 (fun o m167 => o = .inl none ∧ St m167 ∧ V m3_startCall 171 [some (.ref 12), some (.int a0), some (.int (mI m 19 (Int32.toNatClampNeg a0))), some (.int (mI m 15 (Int32.toNatClampNeg a0))), some (.int x5), some (.int x98), some (.ref q103)] [] m167 K)))))) ∧ (∀ q149 : Nat, mR m104 q103 1 = some q149 → ∃ q169 : Nat, mR m104 q103 2 = some q169 ∧ C m3_openScope [(.ref 12), (.ref q109), (.ref q149), (.ref q169)] m104 (fun o m171 => ∃ x173 : Int32, o = .inl (some (.int x173)) ∧ St m171 ∧ vp_in a0 3500 ∧ C m9_push_ [(.ref 23), (.int 3), (.int a0)] (mSetI m171 18 (Int32.toNatClampNeg a0) x173) (fun o m175 => o = .inl none ∧ St m175 ∧ isRul m175 q103 ∧ ((mR m175 q103 1 = none → V m3_startCall 171 [some (.ref 12), some (.int a0), some (.int (mI m 19 (Int32.toNatClampNeg a0))), some (.int (mI m 15 (Int32.toNatClampNeg a0))), some (.int x5), some (.int x98), some (.ref q103)] [] m175 K) ∧ (∀ q178 : Nat, mR m175 q103 1 = some q178 → ∃ n183 : Nat, isExp m175 q178 n183 ∧ vp_in a0 3500 ∧ C m9_push [(.ref 23), (.int 2), (.int ((12 + (mI m175 q178 0)) - 1)), (.int (mI m175 17 (Int32.toNatClampNeg a0))), (.int a0)] m175 (fun o m185 => o = .inl none ∧ St m185 ∧ V m3_startCall 171 [some (.ref 12), some (.int a0), some (.int (mI m 19 (Int32.toNatClampNeg a0))), some (.int (mI m 15 (Int32.toNatClampNeg a0))), some (.int x5), some (.int x98), some (.ref q103)] [] m185 K)))))))))) ∧ (x106 = 0 → V m3_startCall 94 [some (.ref 12), some (.int a0), some (.int (mI m 19 (Int32.toNatClampNeg a0))), some (.int (mI m 15 (Int32.toNatClampNeg a0))), some (.int x5), some (.int x98), some (.ref q103)] [] m104 K)))))) ∧ (x98 = (-1) → V m3_startCall 94 [some (.ref 12), some (.int a0), some (.int (mI m 19 (Int32.toNatClampNeg a0))), some (.int (mI m 15 (Int32.toNatClampNeg a0))), some (.int x5), some (.int x98), some .null] [] m96 K)))))) ∧ (x5 = 0 → C m3_fail [(.ref 12), (.int (mI m 19 (Int32.toNatClampNeg a0)))] m3 (fun o m187 => o = .inl none ∧ St m187 ∧ K (.inl none) m187))))) : V m3_startCall 0 [some (.ref 12), some (.int a0), none, none, none, none, none] [] m K := by
  refine r_aload_n (y := m3_startCall) dX3_startCall_0 rfl rfl ?_
  refine g_X3_12 (y := m3_startCall) rfl dX3_startCall_1 hm ?_
  refine g_X3_141 (y := m3_startCall) rfl dX3_startCall_4 hm ?_
  refine r_iload_n (y := m3_startCall) dX3_startCall_7 rfl rfl ?_
  obtain ⟨hb1, h⟩ := h
  refine r_iald (y := m3_startCall) (n := 3500) dX3_startCall_8 (sa_19 hm) hb1 ?_
  refine r_istore_n (y := m3_startCall) (L' := [some (.ref 12), some (.int a0), some (.int (mI m 19 (Int32.toNatClampNeg a0))), none, none, none, none]) dX3_startCall_9 rfl (Nat.le_of_ble_eq_true rfl) rfl ?_
  refine r_aload_n (y := m3_startCall) dX3_startCall_10 rfl rfl ?_
  refine g_X3_12 (y := m3_startCall) rfl dX3_startCall_11 hm ?_
  refine g_X3_247 (y := m3_startCall) rfl dX3_startCall_14 hm ?_
  refine r_iload_n (y := m3_startCall) dX3_startCall_17 rfl rfl ?_
  obtain ⟨hb2, h⟩ := h
  refine r_iald (y := m3_startCall) (n := 3500) dX3_startCall_18 (sa_15 hm) hb2 ?_
  refine r_istore_n (y := m3_startCall) (L' := [some (.ref 12), some (.int a0), some (.int (mI m 19 (Int32.toNatClampNeg a0))), some (.int (mI m 15 (Int32.toNatClampNeg a0))), none, none, none]) dX3_startCall_19 rfl (Nat.le_of_ble_eq_true rfl) rfl ?_
  refine r_aload_n (y := m3_startCall) dX3_startCall_20 rfl rfl ?_
  refine g_X3_63 (y := m3_startCall) rfl dX3_startCall_21 hm ?_
  refine r_iload_n (y := m3_startCall) dX3_startCall_24 rfl rfl ?_
  refine r_callVN (y := m3_startCall) (As := [(.int (mI m 15 (Int32.toNatClampNeg a0)))]) (b := 7) (ci := 5) dX3_startCall_25 rfl k5_rulesOf lm_X3_258 rfl ⟨by decide, by decide⟩ (so_7 hm) (by decide) rfl (Nat.le_of_ble_eq_true rfl) (C.mono h ?_)
  rintro _ m3 ⟨x5, rfl, hm4, h⟩
  refine ⟨_, rfl, ?_⟩
  refine r_istore (y := m3_startCall) (L' := [some (.ref 12), some (.int a0), some (.int (mI m 19 (Int32.toNatClampNeg a0))), some (.int (mI m 15 (Int32.toNatClampNeg a0))), some (.int x5), none, none]) dX3_startCall_28 (Nat.le_of_ble_eq_true rfl) rfl ?_
  refine r_iload (y := m3_startCall) dX3_startCall_30 rfl ?_
  refine r_if_ne (y := m3_startCall) (tgt := 41) dX3_startCall_32 (by decide) (fun hc6 => ?_) (fun hc6 => ?_)
  · have h := h.1 hc6
    refine r_iload (y := m3_startCall) dX3_startCall_41 rfl ?_
    refine r_iconst (y := m3_startCall) (v := 1) dX3_startCall_43 (by decide) ?_
    refine r_icmp_le (y := m3_startCall) (tgt := 57) dX3_startCall_44 (by decide) (fun hc7 => ?_) (fun hc7 => ?_)
    · have h := h.1 hc7
      refine r_iconst (y := m3_startCall) (v := 0) dX3_startCall_57 (by decide) ?_
      refine r_istore (y := m3_startCall) (L' := [some (.ref 12), some (.int a0), some (.int (mI m 19 (Int32.toNatClampNeg a0))), some (.int (mI m 15 (Int32.toNatClampNeg a0))), some (.int x5), some (.int 0), none]) dX3_startCall_58 (Nat.le_of_ble_eq_true rfl) rfl ?_
      refine r_iload (y := m3_startCall) dX3_startCall_60 rfl ?_
      refine r_iconst (y := m3_startCall) (v := (-1)) dX3_startCall_62 (by decide) ?_
      refine r_icmp_ne (y := m3_startCall) (tgt := 70) dX3_startCall_63 (by decide) (fun hc8 => ?_) (fun hc8 => ?_)
      · have h := h.1 hc8
        refine r_aload_n (y := m3_startCall) dX3_startCall_70 rfl rfl ?_
        refine g_X3_63 (y := m3_startCall) rfl dX3_startCall_71 hm4 ?_
        refine r_iload_n (y := m3_startCall) dX3_startCall_74 rfl rfl ?_
        refine r_iload (y := m3_startCall) dX3_startCall_75 rfl ?_
        refine r_callVN (y := m3_startCall) (As := [(.int (mI m 15 (Int32.toNatClampNeg a0))), (.int 0)]) (b := 7) (ci := 5) dX3_startCall_77 rfl k5_ruleOf lm_X3_263 rfl ⟨by decide, by decide⟩ (so_7 hm4) (by decide) rfl (Nat.le_of_ble_eq_true rfl) (C.mono h ?_)
        rintro _ m9 ⟨z11, rfl, hm10, h⟩
        refine ⟨_, rfl, ?_⟩
        rcases z11 with _ | q12
        · have h := h.1 rfl
          refine r_astoreN (y := m3_startCall) (L' := [some (.ref 12), some (.int a0), some (.int (mI m 19 (Int32.toNatClampNeg a0))), some (.int (mI m 15 (Int32.toNatClampNeg a0))), some (.int x5), some (.int 0), some .null]) dX3_startCall_80 (Nat.le_of_ble_eq_true rfl) rfl ?_
          refine r_aloadN (y := m3_startCall) dX3_startCall_82 rfl ?_
          refine r_ifnullN (y := m3_startCall) (tgt := 94) dX3_startCall_84 (by decide) ?_
          exact h
        · have h := h.2 q12 rfl
          refine r_astore (y := m3_startCall) (L' := [some (.ref 12), some (.int a0), some (.int (mI m 19 (Int32.toNatClampNeg a0))), some (.int (mI m 15 (Int32.toNatClampNeg a0))), some (.int x5), some (.int 0), some (.ref q12)]) dX3_startCall_80 (Nat.le_of_ble_eq_true rfl) rfl ?_
          refine r_aload (y := m3_startCall) dX3_startCall_82 rfl ?_
          refine r_ifnull (y := m3_startCall) dX3_startCall_84 ?_
          refine r_aload_n (y := m3_startCall) dX3_startCall_87 rfl rfl ?_
          refine r_callV (y := m3_startCall) (As := []) (b := 12) (ci := 3) dX3_startCall_88 rfl k3_doStep lm_X3_267 rfl ⟨by decide, by decide⟩ (so_12 hm10) (by decide) rfl (Nat.le_of_ble_eq_true rfl) (C.mono h ?_)
          rintro _ m13 ⟨x15, rfl, hm14, h⟩
          refine ⟨_, rfl, ?_⟩
          refine r_if_ne (y := m3_startCall) (tgt := 95) dX3_startCall_91 (by decide) (fun hc16 => ?_) (fun hc16 => ?_)
          · have h := h.1 hc16
            refine r_aload_n (y := m3_startCall) dX3_startCall_95 rfl rfl ?_
            refine g_X3_12 (y := m3_startCall) rfl dX3_startCall_96 hm14 ?_
            refine g_X3_270 (y := m3_startCall) rfl dX3_startCall_99 hm14 ?_
            refine r_iload_n (y := m3_startCall) dX3_startCall_102 rfl rfl ?_
            refine r_aload_n (y := m3_startCall) dX3_startCall_103 rfl rfl ?_
            refine r_aload (y := m3_startCall) dX3_startCall_104 rfl ?_
            obtain ⟨hx17, h⟩ := h
            rcases hq19 : mR m13 q12 0 with _ | q18
            · have h := h.1 hq19
              refine g_X3_272 (y := m3_startCall) rfl dX3_startCall_106 hx17 (q := none) hq19 ?_
              refine r_aload (y := m3_startCall) dX3_startCall_109 rfl ?_
              rcases hq21 : mR m13 q12 1 with _ | q20
              · have h := h.1 hq21
                refine g_X3_277 (y := m3_startCall) rfl dX3_startCall_111 hx17 (q := none) hq21 ?_
                refine r_aload (y := m3_startCall) dX3_startCall_114 rfl ?_
                obtain ⟨q22, hq23, h⟩ := h
                refine g_X3_280 (y := m3_startCall) rfl dX3_startCall_116 hx17 (q := some q22) hq23 ?_
                refine r_callV (y := m3_startCall) (As := [.null, .null, (.ref q22)]) (b := 12) (ci := 3) dX3_startCall_119 rfl k3_openScope lm_X3_76 rfl ⟨by decide, by decide⟩ (so_12 hm14) (by decide) rfl (Nat.le_of_ble_eq_true rfl) (C.mono h ?_)
                rintro _ m24 ⟨x26, rfl, hm25, h⟩
                refine ⟨_, rfl, ?_⟩
                obtain ⟨hb27, h⟩ := h
                refine r_iast (y := m3_startCall) (n := 3500) dX3_startCall_122 (sa_18 hm25) hb27 ?_
                refine r_aload_n (y := m3_startCall) dX3_startCall_123 rfl rfl ?_
                refine g_X3_21 (y := m3_startCall) rfl dX3_startCall_124 (St.i hm25) ?_
                refine r_iconst (y := m3_startCall) (v := 3) dX3_startCall_127 (by decide) ?_
                refine r_iload_n (y := m3_startCall) dX3_startCall_128 rfl rfl ?_
                refine r_callVN (y := m3_startCall) (As := [(.int 3), (.int a0)]) (b := 23) (ci := 9) dX3_startCall_129 rfl k9_push_ lm_X3_93 rfl ⟨by decide, by decide⟩ (so_23 (St.i hm25)) (by decide) rfl (Nat.le_of_ble_eq_true rfl) (C.mono h ?_)
                rintro _ m28 ⟨rfl, hm29, h⟩
                refine ⟨none, rfl, ?_⟩
                refine r_aload (y := m3_startCall) dX3_startCall_132 rfl ?_
                obtain ⟨hx30, h⟩ := h
                rcases hq32 : mR m28 q12 1 with _ | q31
                · have h := h.1 hq32
                  refine g_X3_277 (y := m3_startCall) rfl dX3_startCall_134 hx30 (q := none) hq32 ?_
                  refine r_ifnullN (y := m3_startCall) (tgt := 171) dX3_startCall_137 (by decide) ?_
                  exact h
                · have h := h.2 q31 hq32
                  refine g_X3_277 (y := m3_startCall) rfl dX3_startCall_134 hx30 (q := some q31) hq32 ?_
                  refine r_ifnull (y := m3_startCall) dX3_startCall_137 ?_
                  refine r_aload_n (y := m3_startCall) dX3_startCall_140 rfl rfl ?_
                  refine g_X3_21 (y := m3_startCall) rfl dX3_startCall_141 hm29 ?_
                  refine r_iconst (y := m3_startCall) (v := 2) dX3_startCall_144 (by decide) ?_
                  refine r_bipush (y := m3_startCall) (v := 12) dX3_startCall_145 (by decide) ?_
                  refine r_aload (y := m3_startCall) dX3_startCall_147 rfl ?_
                  refine g_X3_277 (y := m3_startCall) rfl dX3_startCall_149 hx30 (q := some q31) hq32 ?_
                  obtain ⟨n36, hx35, h⟩ := h
                  refine g_X3_84 (y := m3_startCall) rfl dX3_startCall_152 hx35 ?_
                  refine r_iadd (y := m3_startCall) dX3_startCall_155 ?_
                  refine r_iconst (y := m3_startCall) (v := 1) dX3_startCall_156 (by decide) ?_
                  refine r_isub (y := m3_startCall) dX3_startCall_157 ?_
                  refine r_aload_n (y := m3_startCall) dX3_startCall_158 rfl rfl ?_
                  refine g_X3_12 (y := m3_startCall) rfl dX3_startCall_159 hm29 ?_
                  refine g_X3_226 (y := m3_startCall) rfl dX3_startCall_162 hm29 ?_
                  refine r_iload_n (y := m3_startCall) dX3_startCall_165 rfl rfl ?_
                  obtain ⟨hb37, h⟩ := h
                  refine r_iald (y := m3_startCall) (n := 3500) dX3_startCall_166 (sa_17 hm29) hb37 ?_
                  refine r_iload_n (y := m3_startCall) dX3_startCall_167 rfl rfl ?_
                  refine r_callVN (y := m3_startCall) (As := [(.int 2), (.int ((12 + (mI m28 q31 0)) - 1)), (.int (mI m28 17 (Int32.toNatClampNeg a0))), (.int a0)]) (b := 23) (ci := 9) dX3_startCall_168 rfl k9_push lm_X3_186 rfl ⟨by decide, by decide⟩ (so_23 hm29) (by decide) rfl (Nat.le_of_ble_eq_true rfl) (C.mono h ?_)
                  rintro _ m38 ⟨rfl, hm39, h⟩
                  refine ⟨none, rfl, ?_⟩
                  exact h
              · have h := h.2 q20 hq21
                refine g_X3_277 (y := m3_startCall) rfl dX3_startCall_111 hx17 (q := some q20) hq21 ?_
                refine r_aload (y := m3_startCall) dX3_startCall_114 rfl ?_
                obtain ⟨q40, hq41, h⟩ := h
                refine g_X3_280 (y := m3_startCall) rfl dX3_startCall_116 hx17 (q := some q40) hq41 ?_
                refine r_callV (y := m3_startCall) (As := [.null, (.ref q20), (.ref q40)]) (b := 12) (ci := 3) dX3_startCall_119 rfl k3_openScope lm_X3_76 rfl ⟨by decide, by decide⟩ (so_12 hm14) (by decide) rfl (Nat.le_of_ble_eq_true rfl) (C.mono h ?_)
                rintro _ m42 ⟨x44, rfl, hm43, h⟩
                refine ⟨_, rfl, ?_⟩
                obtain ⟨hb45, h⟩ := h
                refine r_iast (y := m3_startCall) (n := 3500) dX3_startCall_122 (sa_18 hm43) hb45 ?_
                refine r_aload_n (y := m3_startCall) dX3_startCall_123 rfl rfl ?_
                refine g_X3_21 (y := m3_startCall) rfl dX3_startCall_124 (St.i hm43) ?_
                refine r_iconst (y := m3_startCall) (v := 3) dX3_startCall_127 (by decide) ?_
                refine r_iload_n (y := m3_startCall) dX3_startCall_128 rfl rfl ?_
                refine r_callVN (y := m3_startCall) (As := [(.int 3), (.int a0)]) (b := 23) (ci := 9) dX3_startCall_129 rfl k9_push_ lm_X3_93 rfl ⟨by decide, by decide⟩ (so_23 (St.i hm43)) (by decide) rfl (Nat.le_of_ble_eq_true rfl) (C.mono h ?_)
                rintro _ m46 ⟨rfl, hm47, h⟩
                refine ⟨none, rfl, ?_⟩
                refine r_aload (y := m3_startCall) dX3_startCall_132 rfl ?_
                obtain ⟨hx48, h⟩ := h
                rcases hq50 : mR m46 q12 1 with _ | q49
                · have h := h.1 hq50
                  refine g_X3_277 (y := m3_startCall) rfl dX3_startCall_134 hx48 (q := none) hq50 ?_
                  refine r_ifnullN (y := m3_startCall) (tgt := 171) dX3_startCall_137 (by decide) ?_
                  exact h
                · have h := h.2 q49 hq50
                  refine g_X3_277 (y := m3_startCall) rfl dX3_startCall_134 hx48 (q := some q49) hq50 ?_
                  refine r_ifnull (y := m3_startCall) dX3_startCall_137 ?_
                  refine r_aload_n (y := m3_startCall) dX3_startCall_140 rfl rfl ?_
                  refine g_X3_21 (y := m3_startCall) rfl dX3_startCall_141 hm47 ?_
                  refine r_iconst (y := m3_startCall) (v := 2) dX3_startCall_144 (by decide) ?_
                  refine r_bipush (y := m3_startCall) (v := 12) dX3_startCall_145 (by decide) ?_
                  refine r_aload (y := m3_startCall) dX3_startCall_147 rfl ?_
                  refine g_X3_277 (y := m3_startCall) rfl dX3_startCall_149 hx48 (q := some q49) hq50 ?_
                  obtain ⟨n54, hx53, h⟩ := h
                  refine g_X3_84 (y := m3_startCall) rfl dX3_startCall_152 hx53 ?_
                  refine r_iadd (y := m3_startCall) dX3_startCall_155 ?_
                  refine r_iconst (y := m3_startCall) (v := 1) dX3_startCall_156 (by decide) ?_
                  refine r_isub (y := m3_startCall) dX3_startCall_157 ?_
                  refine r_aload_n (y := m3_startCall) dX3_startCall_158 rfl rfl ?_
                  refine g_X3_12 (y := m3_startCall) rfl dX3_startCall_159 hm47 ?_
                  refine g_X3_226 (y := m3_startCall) rfl dX3_startCall_162 hm47 ?_
                  refine r_iload_n (y := m3_startCall) dX3_startCall_165 rfl rfl ?_
                  obtain ⟨hb55, h⟩ := h
                  refine r_iald (y := m3_startCall) (n := 3500) dX3_startCall_166 (sa_17 hm47) hb55 ?_
                  refine r_iload_n (y := m3_startCall) dX3_startCall_167 rfl rfl ?_
                  refine r_callVN (y := m3_startCall) (As := [(.int 2), (.int ((12 + (mI m46 q49 0)) - 1)), (.int (mI m46 17 (Int32.toNatClampNeg a0))), (.int a0)]) (b := 23) (ci := 9) dX3_startCall_168 rfl k9_push lm_X3_186 rfl ⟨by decide, by decide⟩ (so_23 hm47) (by decide) rfl (Nat.le_of_ble_eq_true rfl) (C.mono h ?_)
                  rintro _ m56 ⟨rfl, hm57, h⟩
                  refine ⟨none, rfl, ?_⟩
                  exact h
            · have h := h.2 q18 hq19
              refine g_X3_272 (y := m3_startCall) rfl dX3_startCall_106 hx17 (q := some q18) hq19 ?_
              refine r_aload (y := m3_startCall) dX3_startCall_109 rfl ?_
              rcases hq59 : mR m13 q12 1 with _ | q58
              · have h := h.1 hq59
                refine g_X3_277 (y := m3_startCall) rfl dX3_startCall_111 hx17 (q := none) hq59 ?_
                refine r_aload (y := m3_startCall) dX3_startCall_114 rfl ?_
                obtain ⟨q60, hq61, h⟩ := h
                refine g_X3_280 (y := m3_startCall) rfl dX3_startCall_116 hx17 (q := some q60) hq61 ?_
                refine r_callV (y := m3_startCall) (As := [(.ref q18), .null, (.ref q60)]) (b := 12) (ci := 3) dX3_startCall_119 rfl k3_openScope lm_X3_76 rfl ⟨by decide, by decide⟩ (so_12 hm14) (by decide) rfl (Nat.le_of_ble_eq_true rfl) (C.mono h ?_)
                rintro _ m62 ⟨x64, rfl, hm63, h⟩
                refine ⟨_, rfl, ?_⟩
                obtain ⟨hb65, h⟩ := h
                refine r_iast (y := m3_startCall) (n := 3500) dX3_startCall_122 (sa_18 hm63) hb65 ?_
                refine r_aload_n (y := m3_startCall) dX3_startCall_123 rfl rfl ?_
                refine g_X3_21 (y := m3_startCall) rfl dX3_startCall_124 (St.i hm63) ?_
                refine r_iconst (y := m3_startCall) (v := 3) dX3_startCall_127 (by decide) ?_
                refine r_iload_n (y := m3_startCall) dX3_startCall_128 rfl rfl ?_
                refine r_callVN (y := m3_startCall) (As := [(.int 3), (.int a0)]) (b := 23) (ci := 9) dX3_startCall_129 rfl k9_push_ lm_X3_93 rfl ⟨by decide, by decide⟩ (so_23 (St.i hm63)) (by decide) rfl (Nat.le_of_ble_eq_true rfl) (C.mono h ?_)
                rintro _ m66 ⟨rfl, hm67, h⟩
                refine ⟨none, rfl, ?_⟩
                refine r_aload (y := m3_startCall) dX3_startCall_132 rfl ?_
                obtain ⟨hx68, h⟩ := h
                rcases hq70 : mR m66 q12 1 with _ | q69
                · have h := h.1 hq70
                  refine g_X3_277 (y := m3_startCall) rfl dX3_startCall_134 hx68 (q := none) hq70 ?_
                  refine r_ifnullN (y := m3_startCall) (tgt := 171) dX3_startCall_137 (by decide) ?_
                  exact h
                · have h := h.2 q69 hq70
                  refine g_X3_277 (y := m3_startCall) rfl dX3_startCall_134 hx68 (q := some q69) hq70 ?_
                  refine r_ifnull (y := m3_startCall) dX3_startCall_137 ?_
                  refine r_aload_n (y := m3_startCall) dX3_startCall_140 rfl rfl ?_
                  refine g_X3_21 (y := m3_startCall) rfl dX3_startCall_141 hm67 ?_
                  refine r_iconst (y := m3_startCall) (v := 2) dX3_startCall_144 (by decide) ?_
                  refine r_bipush (y := m3_startCall) (v := 12) dX3_startCall_145 (by decide) ?_
                  refine r_aload (y := m3_startCall) dX3_startCall_147 rfl ?_
                  refine g_X3_277 (y := m3_startCall) rfl dX3_startCall_149 hx68 (q := some q69) hq70 ?_
                  obtain ⟨n74, hx73, h⟩ := h
                  refine g_X3_84 (y := m3_startCall) rfl dX3_startCall_152 hx73 ?_
                  refine r_iadd (y := m3_startCall) dX3_startCall_155 ?_
                  refine r_iconst (y := m3_startCall) (v := 1) dX3_startCall_156 (by decide) ?_
                  refine r_isub (y := m3_startCall) dX3_startCall_157 ?_
                  refine r_aload_n (y := m3_startCall) dX3_startCall_158 rfl rfl ?_
                  refine g_X3_12 (y := m3_startCall) rfl dX3_startCall_159 hm67 ?_
                  refine g_X3_226 (y := m3_startCall) rfl dX3_startCall_162 hm67 ?_
                  refine r_iload_n (y := m3_startCall) dX3_startCall_165 rfl rfl ?_
                  obtain ⟨hb75, h⟩ := h
                  refine r_iald (y := m3_startCall) (n := 3500) dX3_startCall_166 (sa_17 hm67) hb75 ?_
                  refine r_iload_n (y := m3_startCall) dX3_startCall_167 rfl rfl ?_
                  refine r_callVN (y := m3_startCall) (As := [(.int 2), (.int ((12 + (mI m66 q69 0)) - 1)), (.int (mI m66 17 (Int32.toNatClampNeg a0))), (.int a0)]) (b := 23) (ci := 9) dX3_startCall_168 rfl k9_push lm_X3_186 rfl ⟨by decide, by decide⟩ (so_23 hm67) (by decide) rfl (Nat.le_of_ble_eq_true rfl) (C.mono h ?_)
                  rintro _ m76 ⟨rfl, hm77, h⟩
                  refine ⟨none, rfl, ?_⟩
                  exact h
              · have h := h.2 q58 hq59
                refine g_X3_277 (y := m3_startCall) rfl dX3_startCall_111 hx17 (q := some q58) hq59 ?_
                refine r_aload (y := m3_startCall) dX3_startCall_114 rfl ?_
                obtain ⟨q78, hq79, h⟩ := h
                refine g_X3_280 (y := m3_startCall) rfl dX3_startCall_116 hx17 (q := some q78) hq79 ?_
                refine r_callV (y := m3_startCall) (As := [(.ref q18), (.ref q58), (.ref q78)]) (b := 12) (ci := 3) dX3_startCall_119 rfl k3_openScope lm_X3_76 rfl ⟨by decide, by decide⟩ (so_12 hm14) (by decide) rfl (Nat.le_of_ble_eq_true rfl) (C.mono h ?_)
                rintro _ m80 ⟨x82, rfl, hm81, h⟩
                refine ⟨_, rfl, ?_⟩
                obtain ⟨hb83, h⟩ := h
                refine r_iast (y := m3_startCall) (n := 3500) dX3_startCall_122 (sa_18 hm81) hb83 ?_
                refine r_aload_n (y := m3_startCall) dX3_startCall_123 rfl rfl ?_
                refine g_X3_21 (y := m3_startCall) rfl dX3_startCall_124 (St.i hm81) ?_
                refine r_iconst (y := m3_startCall) (v := 3) dX3_startCall_127 (by decide) ?_
                refine r_iload_n (y := m3_startCall) dX3_startCall_128 rfl rfl ?_
                refine r_callVN (y := m3_startCall) (As := [(.int 3), (.int a0)]) (b := 23) (ci := 9) dX3_startCall_129 rfl k9_push_ lm_X3_93 rfl ⟨by decide, by decide⟩ (so_23 (St.i hm81)) (by decide) rfl (Nat.le_of_ble_eq_true rfl) (C.mono h ?_)
                rintro _ m84 ⟨rfl, hm85, h⟩
                refine ⟨none, rfl, ?_⟩
                refine r_aload (y := m3_startCall) dX3_startCall_132 rfl ?_
                obtain ⟨hx86, h⟩ := h
                rcases hq88 : mR m84 q12 1 with _ | q87
                · have h := h.1 hq88
                  refine g_X3_277 (y := m3_startCall) rfl dX3_startCall_134 hx86 (q := none) hq88 ?_
                  refine r_ifnullN (y := m3_startCall) (tgt := 171) dX3_startCall_137 (by decide) ?_
                  exact h
                · have h := h.2 q87 hq88
                  refine g_X3_277 (y := m3_startCall) rfl dX3_startCall_134 hx86 (q := some q87) hq88 ?_
                  refine r_ifnull (y := m3_startCall) dX3_startCall_137 ?_
                  refine r_aload_n (y := m3_startCall) dX3_startCall_140 rfl rfl ?_
                  refine g_X3_21 (y := m3_startCall) rfl dX3_startCall_141 hm85 ?_
                  refine r_iconst (y := m3_startCall) (v := 2) dX3_startCall_144 (by decide) ?_
                  refine r_bipush (y := m3_startCall) (v := 12) dX3_startCall_145 (by decide) ?_
                  refine r_aload (y := m3_startCall) dX3_startCall_147 rfl ?_
                  refine g_X3_277 (y := m3_startCall) rfl dX3_startCall_149 hx86 (q := some q87) hq88 ?_
                  obtain ⟨n92, hx91, h⟩ := h
                  refine g_X3_84 (y := m3_startCall) rfl dX3_startCall_152 hx91 ?_
                  refine r_iadd (y := m3_startCall) dX3_startCall_155 ?_
                  refine r_iconst (y := m3_startCall) (v := 1) dX3_startCall_156 (by decide) ?_
                  refine r_isub (y := m3_startCall) dX3_startCall_157 ?_
                  refine r_aload_n (y := m3_startCall) dX3_startCall_158 rfl rfl ?_
                  refine g_X3_12 (y := m3_startCall) rfl dX3_startCall_159 hm85 ?_
                  refine g_X3_226 (y := m3_startCall) rfl dX3_startCall_162 hm85 ?_
                  refine r_iload_n (y := m3_startCall) dX3_startCall_165 rfl rfl ?_
                  obtain ⟨hb93, h⟩ := h
                  refine r_iald (y := m3_startCall) (n := 3500) dX3_startCall_166 (sa_17 hm85) hb93 ?_
                  refine r_iload_n (y := m3_startCall) dX3_startCall_167 rfl rfl ?_
                  refine r_callVN (y := m3_startCall) (As := [(.int 2), (.int ((12 + (mI m84 q87 0)) - 1)), (.int (mI m84 17 (Int32.toNatClampNeg a0))), (.int a0)]) (b := 23) (ci := 9) dX3_startCall_168 rfl k9_push lm_X3_186 rfl ⟨by decide, by decide⟩ (so_23 hm85) (by decide) rfl (Nat.le_of_ble_eq_true rfl) (C.mono h ?_)
                  rintro _ m94 ⟨rfl, hm95, h⟩
                  refine ⟨none, rfl, ?_⟩
                  exact h
          · have h := h.2 hc16
            exact h
      · have h := h.2 hc8
        refine r_null (y := m3_startCall) dX3_startCall_66 ?_
        refine r_goto (y := m3_startCall) (tgt := 80) dX3_startCall_67 (by decide) ?_
        refine r_astoreN (y := m3_startCall) (L' := [some (.ref 12), some (.int a0), some (.int (mI m 19 (Int32.toNatClampNeg a0))), some (.int (mI m 15 (Int32.toNatClampNeg a0))), some (.int x5), some (.int 0), some .null]) dX3_startCall_80 (Nat.le_of_ble_eq_true rfl) rfl ?_
        refine r_aloadN (y := m3_startCall) dX3_startCall_82 rfl ?_
        refine r_ifnullN (y := m3_startCall) (tgt := 94) dX3_startCall_84 (by decide) ?_
        exact h
    · have h := h.2 hc7
      refine r_aload_n (y := m3_startCall) dX3_startCall_47 rfl rfl ?_
      refine r_iload_n (y := m3_startCall) dX3_startCall_48 rfl rfl ?_
      refine r_iload (y := m3_startCall) dX3_startCall_49 rfl ?_
      refine r_callV (y := m3_startCall) (As := [(.int (mI m 19 (Int32.toNatClampNeg a0))), (.int x5)]) (b := 12) (ci := 3) dX3_startCall_51 rfl k3_decide lm_X3_251 rfl ⟨by decide, by decide⟩ (so_12 hm4) (by decide) rfl (Nat.le_of_ble_eq_true rfl) (C.mono h ?_)
      rintro _ m96 ⟨x98, rfl, hm97, h⟩
      refine ⟨_, rfl, ?_⟩
      refine r_goto (y := m3_startCall) (tgt := 58) dX3_startCall_54 (by decide) ?_
      refine r_istore (y := m3_startCall) (L' := [some (.ref 12), some (.int a0), some (.int (mI m 19 (Int32.toNatClampNeg a0))), some (.int (mI m 15 (Int32.toNatClampNeg a0))), some (.int x5), some (.int x98), none]) dX3_startCall_58 (Nat.le_of_ble_eq_true rfl) rfl ?_
      refine r_iload (y := m3_startCall) dX3_startCall_60 rfl ?_
      refine r_iconst (y := m3_startCall) (v := (-1)) dX3_startCall_62 (by decide) ?_
      refine r_icmp_ne (y := m3_startCall) (tgt := 70) dX3_startCall_63 (by decide) (fun hc99 => ?_) (fun hc99 => ?_)
      · have h := h.1 hc99
        refine r_aload_n (y := m3_startCall) dX3_startCall_70 rfl rfl ?_
        refine g_X3_63 (y := m3_startCall) rfl dX3_startCall_71 hm97 ?_
        refine r_iload_n (y := m3_startCall) dX3_startCall_74 rfl rfl ?_
        refine r_iload (y := m3_startCall) dX3_startCall_75 rfl ?_
        refine r_callVN (y := m3_startCall) (As := [(.int (mI m 15 (Int32.toNatClampNeg a0))), (.int x98)]) (b := 7) (ci := 5) dX3_startCall_77 rfl k5_ruleOf lm_X3_263 rfl ⟨by decide, by decide⟩ (so_7 hm97) (by decide) rfl (Nat.le_of_ble_eq_true rfl) (C.mono h ?_)
        rintro _ m100 ⟨z102, rfl, hm101, h⟩
        refine ⟨_, rfl, ?_⟩
        rcases z102 with _ | q103
        · have h := h.1 rfl
          refine r_astoreN (y := m3_startCall) (L' := [some (.ref 12), some (.int a0), some (.int (mI m 19 (Int32.toNatClampNeg a0))), some (.int (mI m 15 (Int32.toNatClampNeg a0))), some (.int x5), some (.int x98), some .null]) dX3_startCall_80 (Nat.le_of_ble_eq_true rfl) rfl ?_
          refine r_aloadN (y := m3_startCall) dX3_startCall_82 rfl ?_
          refine r_ifnullN (y := m3_startCall) (tgt := 94) dX3_startCall_84 (by decide) ?_
          exact h
        · have h := h.2 q103 rfl
          refine r_astore (y := m3_startCall) (L' := [some (.ref 12), some (.int a0), some (.int (mI m 19 (Int32.toNatClampNeg a0))), some (.int (mI m 15 (Int32.toNatClampNeg a0))), some (.int x5), some (.int x98), some (.ref q103)]) dX3_startCall_80 (Nat.le_of_ble_eq_true rfl) rfl ?_
          refine r_aload (y := m3_startCall) dX3_startCall_82 rfl ?_
          refine r_ifnull (y := m3_startCall) dX3_startCall_84 ?_
          refine r_aload_n (y := m3_startCall) dX3_startCall_87 rfl rfl ?_
          refine r_callV (y := m3_startCall) (As := []) (b := 12) (ci := 3) dX3_startCall_88 rfl k3_doStep lm_X3_267 rfl ⟨by decide, by decide⟩ (so_12 hm101) (by decide) rfl (Nat.le_of_ble_eq_true rfl) (C.mono h ?_)
          rintro _ m104 ⟨x106, rfl, hm105, h⟩
          refine ⟨_, rfl, ?_⟩
          refine r_if_ne (y := m3_startCall) (tgt := 95) dX3_startCall_91 (by decide) (fun hc107 => ?_) (fun hc107 => ?_)
          · have h := h.1 hc107
            refine r_aload_n (y := m3_startCall) dX3_startCall_95 rfl rfl ?_
            refine g_X3_12 (y := m3_startCall) rfl dX3_startCall_96 hm105 ?_
            refine g_X3_270 (y := m3_startCall) rfl dX3_startCall_99 hm105 ?_
            refine r_iload_n (y := m3_startCall) dX3_startCall_102 rfl rfl ?_
            refine r_aload_n (y := m3_startCall) dX3_startCall_103 rfl rfl ?_
            refine r_aload (y := m3_startCall) dX3_startCall_104 rfl ?_
            obtain ⟨hx108, h⟩ := h
            rcases hq110 : mR m104 q103 0 with _ | q109
            · have h := h.1 hq110
              refine g_X3_272 (y := m3_startCall) rfl dX3_startCall_106 hx108 (q := none) hq110 ?_
              refine r_aload (y := m3_startCall) dX3_startCall_109 rfl ?_
              rcases hq112 : mR m104 q103 1 with _ | q111
              · have h := h.1 hq112
                refine g_X3_277 (y := m3_startCall) rfl dX3_startCall_111 hx108 (q := none) hq112 ?_
                refine r_aload (y := m3_startCall) dX3_startCall_114 rfl ?_
                obtain ⟨q113, hq114, h⟩ := h
                refine g_X3_280 (y := m3_startCall) rfl dX3_startCall_116 hx108 (q := some q113) hq114 ?_
                refine r_callV (y := m3_startCall) (As := [.null, .null, (.ref q113)]) (b := 12) (ci := 3) dX3_startCall_119 rfl k3_openScope lm_X3_76 rfl ⟨by decide, by decide⟩ (so_12 hm105) (by decide) rfl (Nat.le_of_ble_eq_true rfl) (C.mono h ?_)
                rintro _ m115 ⟨x117, rfl, hm116, h⟩
                refine ⟨_, rfl, ?_⟩
                obtain ⟨hb118, h⟩ := h
                refine r_iast (y := m3_startCall) (n := 3500) dX3_startCall_122 (sa_18 hm116) hb118 ?_
                refine r_aload_n (y := m3_startCall) dX3_startCall_123 rfl rfl ?_
                refine g_X3_21 (y := m3_startCall) rfl dX3_startCall_124 (St.i hm116) ?_
                refine r_iconst (y := m3_startCall) (v := 3) dX3_startCall_127 (by decide) ?_
                refine r_iload_n (y := m3_startCall) dX3_startCall_128 rfl rfl ?_
                refine r_callVN (y := m3_startCall) (As := [(.int 3), (.int a0)]) (b := 23) (ci := 9) dX3_startCall_129 rfl k9_push_ lm_X3_93 rfl ⟨by decide, by decide⟩ (so_23 (St.i hm116)) (by decide) rfl (Nat.le_of_ble_eq_true rfl) (C.mono h ?_)
                rintro _ m119 ⟨rfl, hm120, h⟩
                refine ⟨none, rfl, ?_⟩
                refine r_aload (y := m3_startCall) dX3_startCall_132 rfl ?_
                obtain ⟨hx121, h⟩ := h
                rcases hq123 : mR m119 q103 1 with _ | q122
                · have h := h.1 hq123
                  refine g_X3_277 (y := m3_startCall) rfl dX3_startCall_134 hx121 (q := none) hq123 ?_
                  refine r_ifnullN (y := m3_startCall) (tgt := 171) dX3_startCall_137 (by decide) ?_
                  exact h
                · have h := h.2 q122 hq123
                  refine g_X3_277 (y := m3_startCall) rfl dX3_startCall_134 hx121 (q := some q122) hq123 ?_
                  refine r_ifnull (y := m3_startCall) dX3_startCall_137 ?_
                  refine r_aload_n (y := m3_startCall) dX3_startCall_140 rfl rfl ?_
                  refine g_X3_21 (y := m3_startCall) rfl dX3_startCall_141 hm120 ?_
                  refine r_iconst (y := m3_startCall) (v := 2) dX3_startCall_144 (by decide) ?_
                  refine r_bipush (y := m3_startCall) (v := 12) dX3_startCall_145 (by decide) ?_
                  refine r_aload (y := m3_startCall) dX3_startCall_147 rfl ?_
                  refine g_X3_277 (y := m3_startCall) rfl dX3_startCall_149 hx121 (q := some q122) hq123 ?_
                  obtain ⟨n127, hx126, h⟩ := h
                  refine g_X3_84 (y := m3_startCall) rfl dX3_startCall_152 hx126 ?_
                  refine r_iadd (y := m3_startCall) dX3_startCall_155 ?_
                  refine r_iconst (y := m3_startCall) (v := 1) dX3_startCall_156 (by decide) ?_
                  refine r_isub (y := m3_startCall) dX3_startCall_157 ?_
                  refine r_aload_n (y := m3_startCall) dX3_startCall_158 rfl rfl ?_
                  refine g_X3_12 (y := m3_startCall) rfl dX3_startCall_159 hm120 ?_
                  refine g_X3_226 (y := m3_startCall) rfl dX3_startCall_162 hm120 ?_
                  refine r_iload_n (y := m3_startCall) dX3_startCall_165 rfl rfl ?_
                  obtain ⟨hb128, h⟩ := h
                  refine r_iald (y := m3_startCall) (n := 3500) dX3_startCall_166 (sa_17 hm120) hb128 ?_
                  refine r_iload_n (y := m3_startCall) dX3_startCall_167 rfl rfl ?_
                  refine r_callVN (y := m3_startCall) (As := [(.int 2), (.int ((12 + (mI m119 q122 0)) - 1)), (.int (mI m119 17 (Int32.toNatClampNeg a0))), (.int a0)]) (b := 23) (ci := 9) dX3_startCall_168 rfl k9_push lm_X3_186 rfl ⟨by decide, by decide⟩ (so_23 hm120) (by decide) rfl (Nat.le_of_ble_eq_true rfl) (C.mono h ?_)
                  rintro _ m129 ⟨rfl, hm130, h⟩
                  refine ⟨none, rfl, ?_⟩
                  exact h
              · have h := h.2 q111 hq112
                refine g_X3_277 (y := m3_startCall) rfl dX3_startCall_111 hx108 (q := some q111) hq112 ?_
                refine r_aload (y := m3_startCall) dX3_startCall_114 rfl ?_
                obtain ⟨q131, hq132, h⟩ := h
                refine g_X3_280 (y := m3_startCall) rfl dX3_startCall_116 hx108 (q := some q131) hq132 ?_
                refine r_callV (y := m3_startCall) (As := [.null, (.ref q111), (.ref q131)]) (b := 12) (ci := 3) dX3_startCall_119 rfl k3_openScope lm_X3_76 rfl ⟨by decide, by decide⟩ (so_12 hm105) (by decide) rfl (Nat.le_of_ble_eq_true rfl) (C.mono h ?_)
                rintro _ m133 ⟨x135, rfl, hm134, h⟩
                refine ⟨_, rfl, ?_⟩
                obtain ⟨hb136, h⟩ := h
                refine r_iast (y := m3_startCall) (n := 3500) dX3_startCall_122 (sa_18 hm134) hb136 ?_
                refine r_aload_n (y := m3_startCall) dX3_startCall_123 rfl rfl ?_
                refine g_X3_21 (y := m3_startCall) rfl dX3_startCall_124 (St.i hm134) ?_
                refine r_iconst (y := m3_startCall) (v := 3) dX3_startCall_127 (by decide) ?_
                refine r_iload_n (y := m3_startCall) dX3_startCall_128 rfl rfl ?_
                refine r_callVN (y := m3_startCall) (As := [(.int 3), (.int a0)]) (b := 23) (ci := 9) dX3_startCall_129 rfl k9_push_ lm_X3_93 rfl ⟨by decide, by decide⟩ (so_23 (St.i hm134)) (by decide) rfl (Nat.le_of_ble_eq_true rfl) (C.mono h ?_)
                rintro _ m137 ⟨rfl, hm138, h⟩
                refine ⟨none, rfl, ?_⟩
                refine r_aload (y := m3_startCall) dX3_startCall_132 rfl ?_
                obtain ⟨hx139, h⟩ := h
                rcases hq141 : mR m137 q103 1 with _ | q140
                · have h := h.1 hq141
                  refine g_X3_277 (y := m3_startCall) rfl dX3_startCall_134 hx139 (q := none) hq141 ?_
                  refine r_ifnullN (y := m3_startCall) (tgt := 171) dX3_startCall_137 (by decide) ?_
                  exact h
                · have h := h.2 q140 hq141
                  refine g_X3_277 (y := m3_startCall) rfl dX3_startCall_134 hx139 (q := some q140) hq141 ?_
                  refine r_ifnull (y := m3_startCall) dX3_startCall_137 ?_
                  refine r_aload_n (y := m3_startCall) dX3_startCall_140 rfl rfl ?_
                  refine g_X3_21 (y := m3_startCall) rfl dX3_startCall_141 hm138 ?_
                  refine r_iconst (y := m3_startCall) (v := 2) dX3_startCall_144 (by decide) ?_
                  refine r_bipush (y := m3_startCall) (v := 12) dX3_startCall_145 (by decide) ?_
                  refine r_aload (y := m3_startCall) dX3_startCall_147 rfl ?_
                  refine g_X3_277 (y := m3_startCall) rfl dX3_startCall_149 hx139 (q := some q140) hq141 ?_
                  obtain ⟨n145, hx144, h⟩ := h
                  refine g_X3_84 (y := m3_startCall) rfl dX3_startCall_152 hx144 ?_
                  refine r_iadd (y := m3_startCall) dX3_startCall_155 ?_
                  refine r_iconst (y := m3_startCall) (v := 1) dX3_startCall_156 (by decide) ?_
                  refine r_isub (y := m3_startCall) dX3_startCall_157 ?_
                  refine r_aload_n (y := m3_startCall) dX3_startCall_158 rfl rfl ?_
                  refine g_X3_12 (y := m3_startCall) rfl dX3_startCall_159 hm138 ?_
                  refine g_X3_226 (y := m3_startCall) rfl dX3_startCall_162 hm138 ?_
                  refine r_iload_n (y := m3_startCall) dX3_startCall_165 rfl rfl ?_
                  obtain ⟨hb146, h⟩ := h
                  refine r_iald (y := m3_startCall) (n := 3500) dX3_startCall_166 (sa_17 hm138) hb146 ?_
                  refine r_iload_n (y := m3_startCall) dX3_startCall_167 rfl rfl ?_
                  refine r_callVN (y := m3_startCall) (As := [(.int 2), (.int ((12 + (mI m137 q140 0)) - 1)), (.int (mI m137 17 (Int32.toNatClampNeg a0))), (.int a0)]) (b := 23) (ci := 9) dX3_startCall_168 rfl k9_push lm_X3_186 rfl ⟨by decide, by decide⟩ (so_23 hm138) (by decide) rfl (Nat.le_of_ble_eq_true rfl) (C.mono h ?_)
                  rintro _ m147 ⟨rfl, hm148, h⟩
                  refine ⟨none, rfl, ?_⟩
                  exact h
            · have h := h.2 q109 hq110
              refine g_X3_272 (y := m3_startCall) rfl dX3_startCall_106 hx108 (q := some q109) hq110 ?_
              refine r_aload (y := m3_startCall) dX3_startCall_109 rfl ?_
              rcases hq150 : mR m104 q103 1 with _ | q149
              · have h := h.1 hq150
                refine g_X3_277 (y := m3_startCall) rfl dX3_startCall_111 hx108 (q := none) hq150 ?_
                refine r_aload (y := m3_startCall) dX3_startCall_114 rfl ?_
                obtain ⟨q151, hq152, h⟩ := h
                refine g_X3_280 (y := m3_startCall) rfl dX3_startCall_116 hx108 (q := some q151) hq152 ?_
                refine r_callV (y := m3_startCall) (As := [(.ref q109), .null, (.ref q151)]) (b := 12) (ci := 3) dX3_startCall_119 rfl k3_openScope lm_X3_76 rfl ⟨by decide, by decide⟩ (so_12 hm105) (by decide) rfl (Nat.le_of_ble_eq_true rfl) (C.mono h ?_)
                rintro _ m153 ⟨x155, rfl, hm154, h⟩
                refine ⟨_, rfl, ?_⟩
                obtain ⟨hb156, h⟩ := h
                refine r_iast (y := m3_startCall) (n := 3500) dX3_startCall_122 (sa_18 hm154) hb156 ?_
                refine r_aload_n (y := m3_startCall) dX3_startCall_123 rfl rfl ?_
                refine g_X3_21 (y := m3_startCall) rfl dX3_startCall_124 (St.i hm154) ?_
                refine r_iconst (y := m3_startCall) (v := 3) dX3_startCall_127 (by decide) ?_
                refine r_iload_n (y := m3_startCall) dX3_startCall_128 rfl rfl ?_
                refine r_callVN (y := m3_startCall) (As := [(.int 3), (.int a0)]) (b := 23) (ci := 9) dX3_startCall_129 rfl k9_push_ lm_X3_93 rfl ⟨by decide, by decide⟩ (so_23 (St.i hm154)) (by decide) rfl (Nat.le_of_ble_eq_true rfl) (C.mono h ?_)
                rintro _ m157 ⟨rfl, hm158, h⟩
                refine ⟨none, rfl, ?_⟩
                refine r_aload (y := m3_startCall) dX3_startCall_132 rfl ?_
                obtain ⟨hx159, h⟩ := h
                rcases hq161 : mR m157 q103 1 with _ | q160
                · have h := h.1 hq161
                  refine g_X3_277 (y := m3_startCall) rfl dX3_startCall_134 hx159 (q := none) hq161 ?_
                  refine r_ifnullN (y := m3_startCall) (tgt := 171) dX3_startCall_137 (by decide) ?_
                  exact h
                · have h := h.2 q160 hq161
                  refine g_X3_277 (y := m3_startCall) rfl dX3_startCall_134 hx159 (q := some q160) hq161 ?_
                  refine r_ifnull (y := m3_startCall) dX3_startCall_137 ?_
                  refine r_aload_n (y := m3_startCall) dX3_startCall_140 rfl rfl ?_
                  refine g_X3_21 (y := m3_startCall) rfl dX3_startCall_141 hm158 ?_
                  refine r_iconst (y := m3_startCall) (v := 2) dX3_startCall_144 (by decide) ?_
                  refine r_bipush (y := m3_startCall) (v := 12) dX3_startCall_145 (by decide) ?_
                  refine r_aload (y := m3_startCall) dX3_startCall_147 rfl ?_
                  refine g_X3_277 (y := m3_startCall) rfl dX3_startCall_149 hx159 (q := some q160) hq161 ?_
                  obtain ⟨n165, hx164, h⟩ := h
                  refine g_X3_84 (y := m3_startCall) rfl dX3_startCall_152 hx164 ?_
                  refine r_iadd (y := m3_startCall) dX3_startCall_155 ?_
                  refine r_iconst (y := m3_startCall) (v := 1) dX3_startCall_156 (by decide) ?_
                  refine r_isub (y := m3_startCall) dX3_startCall_157 ?_
                  refine r_aload_n (y := m3_startCall) dX3_startCall_158 rfl rfl ?_
                  refine g_X3_12 (y := m3_startCall) rfl dX3_startCall_159 hm158 ?_
                  refine g_X3_226 (y := m3_startCall) rfl dX3_startCall_162 hm158 ?_
                  refine r_iload_n (y := m3_startCall) dX3_startCall_165 rfl rfl ?_
                  obtain ⟨hb166, h⟩ := h
                  refine r_iald (y := m3_startCall) (n := 3500) dX3_startCall_166 (sa_17 hm158) hb166 ?_
                  refine r_iload_n (y := m3_startCall) dX3_startCall_167 rfl rfl ?_
                  refine r_callVN (y := m3_startCall) (As := [(.int 2), (.int ((12 + (mI m157 q160 0)) - 1)), (.int (mI m157 17 (Int32.toNatClampNeg a0))), (.int a0)]) (b := 23) (ci := 9) dX3_startCall_168 rfl k9_push lm_X3_186 rfl ⟨by decide, by decide⟩ (so_23 hm158) (by decide) rfl (Nat.le_of_ble_eq_true rfl) (C.mono h ?_)
                  rintro _ m167 ⟨rfl, hm168, h⟩
                  refine ⟨none, rfl, ?_⟩
                  exact h
              · have h := h.2 q149 hq150
                refine g_X3_277 (y := m3_startCall) rfl dX3_startCall_111 hx108 (q := some q149) hq150 ?_
                refine r_aload (y := m3_startCall) dX3_startCall_114 rfl ?_
                obtain ⟨q169, hq170, h⟩ := h
                refine g_X3_280 (y := m3_startCall) rfl dX3_startCall_116 hx108 (q := some q169) hq170 ?_
                refine r_callV (y := m3_startCall) (As := [(.ref q109), (.ref q149), (.ref q169)]) (b := 12) (ci := 3) dX3_startCall_119 rfl k3_openScope lm_X3_76 rfl ⟨by decide, by decide⟩ (so_12 hm105) (by decide) rfl (Nat.le_of_ble_eq_true rfl) (C.mono h ?_)
                rintro _ m171 ⟨x173, rfl, hm172, h⟩
                refine ⟨_, rfl, ?_⟩
                obtain ⟨hb174, h⟩ := h
                refine r_iast (y := m3_startCall) (n := 3500) dX3_startCall_122 (sa_18 hm172) hb174 ?_
                refine r_aload_n (y := m3_startCall) dX3_startCall_123 rfl rfl ?_
                refine g_X3_21 (y := m3_startCall) rfl dX3_startCall_124 (St.i hm172) ?_
                refine r_iconst (y := m3_startCall) (v := 3) dX3_startCall_127 (by decide) ?_
                refine r_iload_n (y := m3_startCall) dX3_startCall_128 rfl rfl ?_
                refine r_callVN (y := m3_startCall) (As := [(.int 3), (.int a0)]) (b := 23) (ci := 9) dX3_startCall_129 rfl k9_push_ lm_X3_93 rfl ⟨by decide, by decide⟩ (so_23 (St.i hm172)) (by decide) rfl (Nat.le_of_ble_eq_true rfl) (C.mono h ?_)
                rintro _ m175 ⟨rfl, hm176, h⟩
                refine ⟨none, rfl, ?_⟩
                refine r_aload (y := m3_startCall) dX3_startCall_132 rfl ?_
                obtain ⟨hx177, h⟩ := h
                rcases hq179 : mR m175 q103 1 with _ | q178
                · have h := h.1 hq179
                  refine g_X3_277 (y := m3_startCall) rfl dX3_startCall_134 hx177 (q := none) hq179 ?_
                  refine r_ifnullN (y := m3_startCall) (tgt := 171) dX3_startCall_137 (by decide) ?_
                  exact h
                · have h := h.2 q178 hq179
                  refine g_X3_277 (y := m3_startCall) rfl dX3_startCall_134 hx177 (q := some q178) hq179 ?_
                  refine r_ifnull (y := m3_startCall) dX3_startCall_137 ?_
                  refine r_aload_n (y := m3_startCall) dX3_startCall_140 rfl rfl ?_
                  refine g_X3_21 (y := m3_startCall) rfl dX3_startCall_141 hm176 ?_
                  refine r_iconst (y := m3_startCall) (v := 2) dX3_startCall_144 (by decide) ?_
                  refine r_bipush (y := m3_startCall) (v := 12) dX3_startCall_145 (by decide) ?_
                  refine r_aload (y := m3_startCall) dX3_startCall_147 rfl ?_
                  refine g_X3_277 (y := m3_startCall) rfl dX3_startCall_149 hx177 (q := some q178) hq179 ?_
                  obtain ⟨n183, hx182, h⟩ := h
                  refine g_X3_84 (y := m3_startCall) rfl dX3_startCall_152 hx182 ?_
                  refine r_iadd (y := m3_startCall) dX3_startCall_155 ?_
                  refine r_iconst (y := m3_startCall) (v := 1) dX3_startCall_156 (by decide) ?_
                  refine r_isub (y := m3_startCall) dX3_startCall_157 ?_
                  refine r_aload_n (y := m3_startCall) dX3_startCall_158 rfl rfl ?_
                  refine g_X3_12 (y := m3_startCall) rfl dX3_startCall_159 hm176 ?_
                  refine g_X3_226 (y := m3_startCall) rfl dX3_startCall_162 hm176 ?_
                  refine r_iload_n (y := m3_startCall) dX3_startCall_165 rfl rfl ?_
                  obtain ⟨hb184, h⟩ := h
                  refine r_iald (y := m3_startCall) (n := 3500) dX3_startCall_166 (sa_17 hm176) hb184 ?_
                  refine r_iload_n (y := m3_startCall) dX3_startCall_167 rfl rfl ?_
                  refine r_callVN (y := m3_startCall) (As := [(.int 2), (.int ((12 + (mI m175 q178 0)) - 1)), (.int (mI m175 17 (Int32.toNatClampNeg a0))), (.int a0)]) (b := 23) (ci := 9) dX3_startCall_168 rfl k9_push lm_X3_186 rfl ⟨by decide, by decide⟩ (so_23 hm176) (by decide) rfl (Nat.le_of_ble_eq_true rfl) (C.mono h ?_)
                  rintro _ m185 ⟨rfl, hm186, h⟩
                  refine ⟨none, rfl, ?_⟩
                  exact h
          · have h := h.2 hc107
            exact h
      · have h := h.2 hc99
        refine r_null (y := m3_startCall) dX3_startCall_66 ?_
        refine r_goto (y := m3_startCall) (tgt := 80) dX3_startCall_67 (by decide) ?_
        refine r_astoreN (y := m3_startCall) (L' := [some (.ref 12), some (.int a0), some (.int (mI m 19 (Int32.toNatClampNeg a0))), some (.int (mI m 15 (Int32.toNatClampNeg a0))), some (.int x5), some (.int x98), some .null]) dX3_startCall_80 (Nat.le_of_ble_eq_true rfl) rfl ?_
        refine r_aloadN (y := m3_startCall) dX3_startCall_82 rfl ?_
        refine r_ifnullN (y := m3_startCall) (tgt := 94) dX3_startCall_84 (by decide) ?_
        exact h
  · have h := h.2 hc6
    refine r_aload_n (y := m3_startCall) dX3_startCall_35 rfl rfl ?_
    refine r_iload_n (y := m3_startCall) dX3_startCall_36 rfl rfl ?_
    refine r_callV (y := m3_startCall) (As := [(.int (mI m 19 (Int32.toNatClampNeg a0)))]) (b := 12) (ci := 3) dX3_startCall_37 rfl k3_fail lm_X3_154 rfl ⟨by decide, by decide⟩ (so_12 hm4) (by decide) rfl (Nat.le_of_ble_eq_true rfl) (C.mono h ?_)
    rintro _ m187 ⟨rfl, hm188, h⟩
    refine ⟨none, rfl, ?_⟩
    exact r_ret (y := m3_startCall) dX3_startCall_40 rfl h
set_option maxHeartbeats 4000000 in
set_option maxRecDepth 100000 in
theorem w3_startCall_94 {m : Mm} {K : Option Value ⊕ String → Mm → Prop} (hm : St m) {v1 : Int32} {v2 : Int32} {v3 : Int32} {v4 : Int32} {v5 : Int32}  (h : K (.inl none) m) : V m3_startCall 94 [some (.ref 12), some (.int v1), some (.int v2), some (.int v3), some (.int v4), some (.int v5), none] [] m K := by
  exact r_ret (y := m3_startCall) dX3_startCall_94 rfl h
set_option maxHeartbeats 4000000 in
set_option maxRecDepth 100000 in
theorem w3_startCall_171 {m : Mm} {K : Option Value ⊕ String → Mm → Prop} (hm : St m) {v1 : Int32} {v2 : Int32} {v3 : Int32} {v4 : Int32} {v5 : Int32} {ee6 : Nat} (hee6 : isRul m ee6) (h : ((mR m ee6 0 = none → V m3_startCall 207 [some (.ref 12), some (.int v1), some (.int v2), some (.int v3), some (.int v4), some (.int v5), some (.ref ee6)] [] m K) ∧ (∀ q1 : Nat, mR m ee6 0 = some q1 → ∃ n6 : Nat, isExp m q1 n6 ∧ vp_in v1 3500 ∧ C m9_push [(.ref 23), (.int 2), (.int ((mI m q1 0) - 1)), (.int (mI m 16 (Int32.toNatClampNeg v1))), (.int v1)] m (fun o m8 => o = .inl none ∧ St m8 ∧ V m3_startCall 207 [some (.ref 12), some (.int v1), some (.int v2), some (.int v3), some (.int v4), some (.int v5), some (.ref ee6)] [] m8 K)))) : V m3_startCall 171 [some (.ref 12), some (.int v1), some (.int v2), some (.int v3), some (.int v4), some (.int v5), some (.ref ee6)] [] m K := by
  refine r_aload (y := m3_startCall) dX3_startCall_171 rfl ?_
  rcases hq2 : mR m ee6 0 with _ | q1
  · have h := h.1 hq2
    refine g_X3_272 (y := m3_startCall) rfl dX3_startCall_173 hee6 (q := none) hq2 ?_
    refine r_ifnullN (y := m3_startCall) (tgt := 207) dX3_startCall_176 (by decide) ?_
    exact h
  · have h := h.2 q1 hq2
    refine g_X3_272 (y := m3_startCall) rfl dX3_startCall_173 hee6 (q := some q1) hq2 ?_
    refine r_ifnull (y := m3_startCall) dX3_startCall_176 ?_
    refine r_aload_n (y := m3_startCall) dX3_startCall_179 rfl rfl ?_
    refine g_X3_21 (y := m3_startCall) rfl dX3_startCall_180 hm ?_
    refine r_iconst (y := m3_startCall) (v := 2) dX3_startCall_183 (by decide) ?_
    refine r_aload (y := m3_startCall) dX3_startCall_184 rfl ?_
    refine g_X3_272 (y := m3_startCall) rfl dX3_startCall_186 hee6 (q := some q1) hq2 ?_
    obtain ⟨n6, hx5, h⟩ := h
    refine g_X3_84 (y := m3_startCall) rfl dX3_startCall_189 hx5 ?_
    refine r_iconst (y := m3_startCall) (v := 1) dX3_startCall_192 (by decide) ?_
    refine r_isub (y := m3_startCall) dX3_startCall_193 ?_
    refine r_aload_n (y := m3_startCall) dX3_startCall_194 rfl rfl ?_
    refine g_X3_12 (y := m3_startCall) rfl dX3_startCall_195 hm ?_
    refine g_X3_225 (y := m3_startCall) rfl dX3_startCall_198 hm ?_
    refine r_iload_n (y := m3_startCall) dX3_startCall_201 rfl rfl ?_
    obtain ⟨hb7, h⟩ := h
    refine r_iald (y := m3_startCall) (n := 3500) dX3_startCall_202 (sa_16 hm) hb7 ?_
    refine r_iload_n (y := m3_startCall) dX3_startCall_203 rfl rfl ?_
    refine r_callVN (y := m3_startCall) (As := [(.int 2), (.int ((mI m q1 0) - 1)), (.int (mI m 16 (Int32.toNatClampNeg v1))), (.int v1)]) (b := 23) (ci := 9) dX3_startCall_204 rfl k9_push lm_X3_186 rfl ⟨by decide, by decide⟩ (so_23 hm) (by decide) rfl (Nat.le_of_ble_eq_true rfl) (C.mono h ?_)
    rintro _ m8 ⟨rfl, hm9, h⟩
    refine ⟨none, rfl, ?_⟩
    exact h
set_option maxHeartbeats 4000000 in
set_option maxRecDepth 100000 in
theorem w3_startCall_207 {m : Mm} {K : Option Value ⊕ String → Mm → Prop} (hm : St m) {v1 : Int32} {v2 : Int32} {v3 : Int32} {v4 : Int32} {v5 : Int32} {ee6 : Nat} (hee6 : isRul m ee6) (h : K (.inl none) m) : V m3_startCall 207 [some (.ref 12), some (.int v1), some (.int v2), some (.int v3), some (.int v4), some (.int v5), some (.ref ee6)] [] m K := by
  exact r_ret (y := m3_startCall) dX3_startCall_207 rfl h
set_option maxHeartbeats 4000000 in
set_option maxRecDepth 100000 in
theorem w3_match {m : Mm} {K : Option Value ⊕ String → Mm → Prop} (hm : St m) {a0 : Int32} {a1 : Int32} {a2 : Int32}  (h : vp_in a2 3500 ∧ vp_in (mI m 18 (Int32.toNatClampNeg a2)) 102 ∧ ((12 ≤ a0 → (((0 : Int32) = 0 → ((mR m (31 + 2 * (Int32.toNatClampNeg (mI m 18 (Int32.toNatClampNeg a2)))) 2 = none → (((0 : Int32) = 0 → V m3_match 84 [some (.ref 12), some (.int a0), some (.int a1), some (.int a2), some (.ref (31 + 2 * (Int32.toNatClampNeg (mI m 18 (Int32.toNatClampNeg a2))))), some (.int 0), some .null, some (.int (a0 - 12)), none] [] m K) ∧ (¬ (0 : Int32) = 0 → V m3_match 84 [some (.ref 12), some (.int a0), some (.int a1), some (.int a2), some (.ref (31 + 2 * (Int32.toNatClampNeg (mI m 18 (Int32.toNatClampNeg a2))))), some (.int 0), some .null, some (.int a0), none] [] m K))) ∧ (∀ q6 : Nat, mR m (31 + 2 * (Int32.toNatClampNeg (mI m 18 (Int32.toNatClampNeg a2)))) 2 = some q6 → (((0 : Int32) = 0 → (((a0 - 12) < 0 → V m3_match 84 [some (.ref 12), some (.int a0), some (.int a1), some (.int a2), some (.ref (31 + 2 * (Int32.toNatClampNeg (mI m 18 (Int32.toNatClampNeg a2))))), some (.int 0), some (.ref q6), some (.int (a0 - 12)), none] [] m K) ∧ (¬ (a0 - 12) < 0 → ∃ n12 : Nat, isExp m q6 n12 ∧ (((a0 - 12) < (mI m q6 0) → vp_in (a0 - 12) n12 ∧ ((¬ (mI m (q6 + 1) (Int32.toNatClampNeg (a0 - 12))) = 0 → C m10_find [(.ref 13), (.int a1)] m (fun o m16 => ∃ x18 : Int32, o = .inl (some (.int x18)) ∧ St m16 ∧ C m3_isForced [(.ref 12), (.int x18)] m16 (fun o m19 => ∃ x21 : Int32, o = .inl (some (.int x21)) ∧ St m19 ∧ ((¬ x21 = 0 → isExp m19 q6 n12 ∧ vp_in (a0 - 12) n12 ∧ C m3_isKind [(.ref 12), (.int x18), (.int (mI m19 (q6 + 2) (Int32.toNatClampNeg (a0 - 12)))), (.int a2)] m19 (fun o m25 => ∃ x27 : Int32, o = .inl (some (.int x27)) ∧ St m25 ∧ ((x27 = 0 → V m3_match 188 [some (.ref 12), some (.int a0), some (.int a1), some (.int a2), some (.ref (31 + 2 * (Int32.toNatClampNeg (mI m 18 (Int32.toNatClampNeg a2))))), some (.int 0), some (.ref q6), some (.int (a0 - 12)), some (.int x18)] [] m25 K) ∧ (¬ x27 = 0 → C m3_matchParts [(.ref 12), (.ref q6), (.int (a0 - 12)), (.int (a0 - (a0 - 12))), (.int x18), (.int a2)] m25 (fun o m29 => o = .inl none ∧ St m29 ∧ V m3_match 188 [some (.ref 12), some (.int a0), some (.int a1), some (.int a2), some (.ref (31 + 2 * (Int32.toNatClampNeg (mI m 18 (Int32.toNatClampNeg a2))))), some (.int 0), some (.ref q6), some (.int (a0 - 12)), some (.int x18)] [] m29 K))))) ∧ (x21 = 0 → C m9_push [(.ref 23), (.int 2), (.int a0), (.int a1), (.int a2)] m19 (fun o m31 => o = .inl none ∧ St m31 ∧ C m9_push_ [(.ref 23), (.int 0), (.int x18)] m31 (fun o m33 => o = .inl none ∧ St m33 ∧ V m3_match 188 [some (.ref 12), some (.int a0), some (.int a1), some (.int a2), some (.ref (31 + 2 * (Int32.toNatClampNeg (mI m 18 (Int32.toNatClampNeg a2))))), some (.int 0), some (.ref q6), some (.int (a0 - 12)), some (.int x18)] [] m33 K))))))) ∧ ((mI m (q6 + 1) (Int32.toNatClampNeg (a0 - 12))) = 0 → vp_in (a0 - 12) n12 ∧ vp_in (mI m (q6 + 2) (Int32.toNatClampNeg (a0 - 12))) 6 ∧ K (.inl none) (mSetI m (32 + 2 * (Int32.toNatClampNeg (mI m 18 (Int32.toNatClampNeg a2)))) (Int32.toNatClampNeg (mI m (q6 + 2) (Int32.toNatClampNeg (a0 - 12)))) a1)))) ∧ (¬ (a0 - 12) < (mI m q6 0) → V m3_match 84 [some (.ref 12), some (.int a0), some (.int a1), some (.int a2), some (.ref (31 + 2 * (Int32.toNatClampNeg (mI m 18 (Int32.toNatClampNeg a2))))), some (.int 0), some (.ref q6), some (.int (a0 - 12)), none] [] m K))))) ∧ (¬ (0 : Int32) = 0 → ((a0 < 0 → V m3_match 84 [some (.ref 12), some (.int a0), some (.int a1), some (.int a2), some (.ref (31 + 2 * (Int32.toNatClampNeg (mI m 18 (Int32.toNatClampNeg a2))))), some (.int 0), some (.ref q6), some (.int a0), none] [] m K) ∧ (¬ a0 < 0 → ∃ n39 : Nat, isExp m q6 n39 ∧ ((a0 < (mI m q6 0) → vp_in a0 n39 ∧ ((¬ (mI m (q6 + 1) (Int32.toNatClampNeg a0)) = 0 → C m10_find [(.ref 13), (.int a1)] m (fun o m43 => ∃ x45 : Int32, o = .inl (some (.int x45)) ∧ St m43 ∧ C m3_isForced [(.ref 12), (.int x45)] m43 (fun o m46 => ∃ x48 : Int32, o = .inl (some (.int x48)) ∧ St m46 ∧ ((¬ x48 = 0 → isExp m46 q6 n39 ∧ vp_in a0 n39 ∧ C m3_isKind [(.ref 12), (.int x45), (.int (mI m46 (q6 + 2) (Int32.toNatClampNeg a0))), (.int a2)] m46 (fun o m52 => ∃ x54 : Int32, o = .inl (some (.int x54)) ∧ St m52 ∧ ((x54 = 0 → V m3_match 188 [some (.ref 12), some (.int a0), some (.int a1), some (.int a2), some (.ref (31 + 2 * (Int32.toNatClampNeg (mI m 18 (Int32.toNatClampNeg a2))))), some (.int 0), some (.ref q6), some (.int a0), some (.int x45)] [] m52 K) ∧ (¬ x54 = 0 → C m3_matchParts [(.ref 12), (.ref q6), (.int a0), (.int (a0 - a0)), (.int x45), (.int a2)] m52 (fun o m56 => o = .inl none ∧ St m56 ∧ V m3_match 188 [some (.ref 12), some (.int a0), some (.int a1), some (.int a2), some (.ref (31 + 2 * (Int32.toNatClampNeg (mI m 18 (Int32.toNatClampNeg a2))))), some (.int 0), some (.ref q6), some (.int a0), some (.int x45)] [] m56 K))))) ∧ (x48 = 0 → C m9_push [(.ref 23), (.int 2), (.int a0), (.int a1), (.int a2)] m46 (fun o m58 => o = .inl none ∧ St m58 ∧ C m9_push_ [(.ref 23), (.int 0), (.int x45)] m58 (fun o m60 => o = .inl none ∧ St m60 ∧ V m3_match 188 [some (.ref 12), some (.int a0), some (.int a1), some (.int a2), some (.ref (31 + 2 * (Int32.toNatClampNeg (mI m 18 (Int32.toNatClampNeg a2))))), some (.int 0), some (.ref q6), some (.int a0), some (.int x45)] [] m60 K))))))) ∧ ((mI m (q6 + 1) (Int32.toNatClampNeg a0)) = 0 → vp_in a0 n39 ∧ vp_in (mI m (q6 + 2) (Int32.toNatClampNeg a0)) 6 ∧ K (.inl none) (mSetI m (32 + 2 * (Int32.toNatClampNeg (mI m 18 (Int32.toNatClampNeg a2)))) (Int32.toNatClampNeg (mI m (q6 + 2) (Int32.toNatClampNeg a0))) a1)))) ∧ (¬ a0 < (mI m q6 0) → V m3_match 84 [some (.ref 12), some (.int a0), some (.int a1), some (.int a2), some (.ref (31 + 2 * (Int32.toNatClampNeg (mI m 18 (Int32.toNatClampNeg a2))))), some (.int 0), some (.ref q6), some (.int a0), none] [] m K))))))))) ∧ (¬ (0 : Int32) = 0 → ((mR m (31 + 2 * (Int32.toNatClampNeg (mI m 18 (Int32.toNatClampNeg a2)))) 1 = none → (((0 : Int32) = 0 → V m3_match 84 [some (.ref 12), some (.int a0), some (.int a1), some (.int a2), some (.ref (31 + 2 * (Int32.toNatClampNeg (mI m 18 (Int32.toNatClampNeg a2))))), some (.int 0), some .null, some (.int (a0 - 12)), none] [] m K) ∧ (¬ (0 : Int32) = 0 → V m3_match 84 [some (.ref 12), some (.int a0), some (.int a1), some (.int a2), some (.ref (31 + 2 * (Int32.toNatClampNeg (mI m 18 (Int32.toNatClampNeg a2))))), some (.int 0), some .null, some (.int a0), none] [] m K))) ∧ (∀ q64 : Nat, mR m (31 + 2 * (Int32.toNatClampNeg (mI m 18 (Int32.toNatClampNeg a2)))) 1 = some q64 → (((0 : Int32) = 0 → (((a0 - 12) < 0 → V m3_match 84 [some (.ref 12), some (.int a0), some (.int a1), some (.int a2), some (.ref (31 + 2 * (Int32.toNatClampNeg (mI m 18 (Int32.toNatClampNeg a2))))), some (.int 0), some (.ref q64), some (.int (a0 - 12)), none] [] m K) ∧ (¬ (a0 - 12) < 0 → ∃ n70 : Nat, isExp m q64 n70 ∧ (((a0 - 12) < (mI m q64 0) → vp_in (a0 - 12) n70 ∧ ((¬ (mI m (q64 + 1) (Int32.toNatClampNeg (a0 - 12))) = 0 → C m10_find [(.ref 13), (.int a1)] m (fun o m74 => ∃ x76 : Int32, o = .inl (some (.int x76)) ∧ St m74 ∧ C m3_isForced [(.ref 12), (.int x76)] m74 (fun o m77 => ∃ x79 : Int32, o = .inl (some (.int x79)) ∧ St m77 ∧ ((¬ x79 = 0 → isExp m77 q64 n70 ∧ vp_in (a0 - 12) n70 ∧ C m3_isKind [(.ref 12), (.int x76), (.int (mI m77 (q64 + 2) (Int32.toNatClampNeg (a0 - 12)))), (.int a2)] m77 (fun o m83 => ∃ x85 : Int32, o = .inl (some (.int x85)) ∧ St m83 ∧ ((x85 = 0 → V m3_match 188 [some (.ref 12), some (.int a0), some (.int a1), some (.int a2), some (.ref (31 + 2 * (Int32.toNatClampNeg (mI m 18 (Int32.toNatClampNeg a2))))), some (.int 0), some (.ref q64), some (.int (a0 - 12)), some (.int x76)] [] m83 K) ∧ (¬ x85 = 0 → C m3_matchParts [(.ref 12), (.ref q64), (.int (a0 - 12)), (.int (a0 - (a0 - 12))), (.int x76), (.int a2)] m83 (fun o m87 => o = .inl none ∧ St m87 ∧ V m3_match 188 [some (.ref 12), some (.int a0), some (.int a1), some (.int a2), some (.ref (31 + 2 * (Int32.toNatClampNeg (mI m 18 (Int32.toNatClampNeg a2))))), some (.int 0), some (.ref q64), some (.int (a0 - 12)), some (.int x76)] [] m87 K))))) ∧ (x79 = 0 → C m9_push [(.ref 23), (.int 2), (.int a0), (.int a1), (.int a2)] m77 (fun o m89 => o = .inl none ∧ St m89 ∧ C m9_push_ [(.ref 23), (.int 0), (.int x76)] m89 (fun o m91 => o = .inl none ∧ St m91 ∧ V m3_match 188 [some (.ref 12), some (.int a0), some (.int a1), some (.int a2), some (.ref (31 + 2 * (Int32.toNatClampNeg (mI m 18 (Int32.toNatClampNeg a2))))), some (.int 0), some (.ref q64), some (.int (a0 - 12)), some (.int x76)] [] m91 K))))))) ∧ ((mI m (q64 + 1) (Int32.toNatClampNeg (a0 - 12))) = 0 → vp_in (a0 - 12) n70 ∧ vp_in (mI m (q64 + 2) (Int32.toNatClampNeg (a0 - 12))) 6 ∧ K (.inl none) (mSetI m (32 + 2 * (Int32.toNatClampNeg (mI m 18 (Int32.toNatClampNeg a2)))) (Int32.toNatClampNeg (mI m (q64 + 2) (Int32.toNatClampNeg (a0 - 12)))) a1)))) ∧ (¬ (a0 - 12) < (mI m q64 0) → V m3_match 84 [some (.ref 12), some (.int a0), some (.int a1), some (.int a2), some (.ref (31 + 2 * (Int32.toNatClampNeg (mI m 18 (Int32.toNatClampNeg a2))))), some (.int 0), some (.ref q64), some (.int (a0 - 12)), none] [] m K))))) ∧ (¬ (0 : Int32) = 0 → ((a0 < 0 → V m3_match 84 [some (.ref 12), some (.int a0), some (.int a1), some (.int a2), some (.ref (31 + 2 * (Int32.toNatClampNeg (mI m 18 (Int32.toNatClampNeg a2))))), some (.int 0), some (.ref q64), some (.int a0), none] [] m K) ∧ (¬ a0 < 0 → ∃ n97 : Nat, isExp m q64 n97 ∧ ((a0 < (mI m q64 0) → vp_in a0 n97 ∧ ((¬ (mI m (q64 + 1) (Int32.toNatClampNeg a0)) = 0 → C m10_find [(.ref 13), (.int a1)] m (fun o m101 => ∃ x103 : Int32, o = .inl (some (.int x103)) ∧ St m101 ∧ C m3_isForced [(.ref 12), (.int x103)] m101 (fun o m104 => ∃ x106 : Int32, o = .inl (some (.int x106)) ∧ St m104 ∧ ((¬ x106 = 0 → isExp m104 q64 n97 ∧ vp_in a0 n97 ∧ C m3_isKind [(.ref 12), (.int x103), (.int (mI m104 (q64 + 2) (Int32.toNatClampNeg a0))), (.int a2)] m104 (fun o m110 => ∃ x112 : Int32, o = .inl (some (.int x112)) ∧ St m110 ∧ ((x112 = 0 → V m3_match 188 [some (.ref 12), some (.int a0), some (.int a1), some (.int a2), some (.ref (31 + 2 * (Int32.toNatClampNeg (mI m 18 (Int32.toNatClampNeg a2))))), some (.int 0), some (.ref q64), some (.int a0), some (.int x103)] [] m110 K) ∧ (¬ x112 = 0 → C m3_matchParts [(.ref 12), (.ref q64), (.int a0), (.int (a0 - a0)), (.int x103), (.int a2)] m110 (fun o m114 => o = .inl none ∧ St m114 ∧ V m3_match 188 [some (.ref 12), some (.int a0), some (.int a1), some (.int a2), some (.ref (31 + 2 * (Int32.toNatClampNeg (mI m 18 (Int32.toNatClampNeg a2))))), some (.int 0), some (.ref q64), some (.int a0), some (.int x103)] [] m114 K))))) ∧ (x106 = 0 → C m9_push [(.ref 23), (.int 2), (.int a0), (.int a1), (.int a2)] m104 (fun o m116 => o = .inl none ∧ St m116 ∧ C m9_push_ [(.ref 23), (.int 0), (.int x103)] m116 (fun o m118 => o = .inl none ∧ St m118 ∧ V m3_match 188 [some (.ref 12), some (.int a0), some (.int a1), some (.int a2), some (.ref (31 + 2 * (Int32.toNatClampNeg (mI m 18 (Int32.toNatClampNeg a2))))), some (.int 0), some (.ref q64), some (.int a0), some (.int x103)] [] m118 K))))))) ∧ ((mI m (q64 + 1) (Int32.toNatClampNeg a0)) = 0 → vp_in a0 n97 ∧ vp_in (mI m (q64 + 2) (Int32.toNatClampNeg a0)) 6 ∧ K (.inl none) (mSetI m (32 + 2 * (Int32.toNatClampNeg (mI m 18 (Int32.toNatClampNeg a2)))) (Int32.toNatClampNeg (mI m (q64 + 2) (Int32.toNatClampNeg a0))) a1)))) ∧ (¬ a0 < (mI m q64 0) → V m3_match 84 [some (.ref 12), some (.int a0), some (.int a1), some (.int a2), some (.ref (31 + 2 * (Int32.toNatClampNeg (mI m 18 (Int32.toNatClampNeg a2))))), some (.int 0), some (.ref q64), some (.int a0), none] [] m K))))))))))) ∧ (¬ 12 ≤ a0 → (((1 : Int32) = 0 → ((mR m (31 + 2 * (Int32.toNatClampNeg (mI m 18 (Int32.toNatClampNeg a2)))) 2 = none → (((1 : Int32) = 0 → V m3_match 84 [some (.ref 12), some (.int a0), some (.int a1), some (.int a2), some (.ref (31 + 2 * (Int32.toNatClampNeg (mI m 18 (Int32.toNatClampNeg a2))))), some (.int 1), some .null, some (.int (a0 - 12)), none] [] m K) ∧ (¬ (1 : Int32) = 0 → V m3_match 84 [some (.ref 12), some (.int a0), some (.int a1), some (.int a2), some (.ref (31 + 2 * (Int32.toNatClampNeg (mI m 18 (Int32.toNatClampNeg a2))))), some (.int 1), some .null, some (.int a0), none] [] m K))) ∧ (∀ q123 : Nat, mR m (31 + 2 * (Int32.toNatClampNeg (mI m 18 (Int32.toNatClampNeg a2)))) 2 = some q123 → (((1 : Int32) = 0 → (((a0 - 12) < 0 → V m3_match 84 [some (.ref 12), some (.int a0), some (.int a1), some (.int a2), some (.ref (31 + 2 * (Int32.toNatClampNeg (mI m 18 (Int32.toNatClampNeg a2))))), some (.int 1), some (.ref q123), some (.int (a0 - 12)), none] [] m K) ∧ (¬ (a0 - 12) < 0 → ∃ n129 : Nat, isExp m q123 n129 ∧ (((a0 - 12) < (mI m q123 0) → vp_in (a0 - 12) n129 ∧ ((¬ (mI m (q123 + 1) (Int32.toNatClampNeg (a0 - 12))) = 0 → C m10_find [(.ref 13), (.int a1)] m (fun o m133 => ∃ x135 : Int32, o = .inl (some (.int x135)) ∧ St m133 ∧ C m3_isForced [(.ref 12), (.int x135)] m133 (fun o m136 => ∃ x138 : Int32, o = .inl (some (.int x138)) ∧ St m136 ∧ ((¬ x138 = 0 → isExp m136 q123 n129 ∧ vp_in (a0 - 12) n129 ∧ C m3_isKind [(.ref 12), (.int x135), (.int (mI m136 (q123 + 2) (Int32.toNatClampNeg (a0 - 12)))), (.int a2)] m136 (fun o m142 => ∃ x144 : Int32, o = .inl (some (.int x144)) ∧ St m142 ∧ ((x144 = 0 → V m3_match 188 [some (.ref 12), some (.int a0), some (.int a1), some (.int a2), some (.ref (31 + 2 * (Int32.toNatClampNeg (mI m 18 (Int32.toNatClampNeg a2))))), some (.int 1), some (.ref q123), some (.int (a0 - 12)), some (.int x135)] [] m142 K) ∧ (¬ x144 = 0 → C m3_matchParts [(.ref 12), (.ref q123), (.int (a0 - 12)), (.int (a0 - (a0 - 12))), (.int x135), (.int a2)] m142 (fun o m146 => o = .inl none ∧ St m146 ∧ V m3_match 188 [some (.ref 12), some (.int a0), some (.int a1), some (.int a2), some (.ref (31 + 2 * (Int32.toNatClampNeg (mI m 18 (Int32.toNatClampNeg a2))))), some (.int 1), some (.ref q123), some (.int (a0 - 12)), some (.int x135)] [] m146 K))))) ∧ (x138 = 0 → C m9_push [(.ref 23), (.int 2), (.int a0), (.int a1), (.int a2)] m136 (fun o m148 => o = .inl none ∧ St m148 ∧ C m9_push_ [(.ref 23), (.int 0), (.int x135)] m148 (fun o m150 => o = .inl none ∧ St m150 ∧ V m3_match 188 [some (.ref 12), some (.int a0), some (.int a1), some (.int a2), some (.ref (31 + 2 * (Int32.toNatClampNeg (mI m 18 (Int32.toNatClampNeg a2))))), some (.int 1), some (.ref q123), some (.int (a0 - 12)), some (.int x135)] [] m150 K))))))) ∧ ((mI m (q123 + 1) (Int32.toNatClampNeg (a0 - 12))) = 0 → vp_in (a0 - 12) n129 ∧ vp_in (mI m (q123 + 2) (Int32.toNatClampNeg (a0 - 12))) 6 ∧ K (.inl none) (mSetI m (32 + 2 * (Int32.toNatClampNeg (mI m 18 (Int32.toNatClampNeg a2)))) (Int32.toNatClampNeg (mI m (q123 + 2) (Int32.toNatClampNeg (a0 - 12)))) a1)))) ∧ (¬ (a0 - 12) < (mI m q123 0) → V m3_match 84 [some (.ref 12), some (.int a0), some (.int a1), some (.int a2), some (.ref (31 + 2 * (Int32.toNatClampNeg (mI m 18 (Int32.toNatClampNeg a2))))), some (.int 1), some (.ref q123), some (.int (a0 - 12)), none] [] m K))))) ∧ (¬ (1 : Int32) = 0 → ((a0 < 0 → V m3_match 84 [some (.ref 12), some (.int a0), some (.int a1), some (.int a2), some (.ref (31 + 2 * (Int32.toNatClampNeg (mI m 18 (Int32.toNatClampNeg a2))))), some (.int 1), some (.ref q123), some (.int a0), none] [] m K) ∧ (¬ a0 < 0 → ∃ n156 : Nat, isExp m q123 n156 ∧ ((a0 < (mI m q123 0) → vp_in a0 n156 ∧ ((¬ (mI m (q123 + 1) (Int32.toNatClampNeg a0)) = 0 → C m10_find [(.ref 13), (.int a1)] m (fun o m160 => ∃ x162 : Int32, o = .inl (some (.int x162)) ∧ St m160 ∧ C m3_isForced [(.ref 12), (.int x162)] m160 (fun o m163 => ∃ x165 : Int32, o = .inl (some (.int x165)) ∧ St m163 ∧ ((¬ x165 = 0 → isExp m163 q123 n156 ∧ vp_in a0 n156 ∧ C m3_isKind [(.ref 12), (.int x162), (.int (mI m163 (q123 + 2) (Int32.toNatClampNeg a0))), (.int a2)] m163 (fun o m169 => ∃ x171 : Int32, o = .inl (some (.int x171)) ∧ St m169 ∧ ((x171 = 0 → V m3_match 188 [some (.ref 12), some (.int a0), some (.int a1), some (.int a2), some (.ref (31 + 2 * (Int32.toNatClampNeg (mI m 18 (Int32.toNatClampNeg a2))))), some (.int 1), some (.ref q123), some (.int a0), some (.int x162)] [] m169 K) ∧ (¬ x171 = 0 → C m3_matchParts [(.ref 12), (.ref q123), (.int a0), (.int (a0 - a0)), (.int x162), (.int a2)] m169 (fun o m173 => o = .inl none ∧ St m173 ∧ V m3_match 188 [some (.ref 12), some (.int a0), some (.int a1), some (.int a2), some (.ref (31 + 2 * (Int32.toNatClampNeg (mI m 18 (Int32.toNatClampNeg a2))))), some (.int 1), some (.ref q123), some (.int a0), some (.int x162)] [] m173 K))))) ∧ (x165 = 0 → C m9_push [(.ref 23), (.int 2), (.int a0), (.int a1), (.int a2)] m163 (fun o m175 => o = .inl none ∧ St m175 ∧ C m9_push_ [(.ref 23), (.int 0), (.int x162)] m175 (fun o m177 => o = .inl none ∧ St m177 ∧ V m3_match 188 [some (.ref 12), some (.int a0), some (.int a1), some (.int a2), some (.ref (31 + 2 * (Int32.toNatClampNeg (mI m 18 (Int32.toNatClampNeg a2))))), some (.int 1), some (.ref q123), some (.int a0), some (.int x162)] [] m177 K))))))) ∧ ((mI m (q123 + 1) (Int32.toNatClampNeg a0)) = 0 → vp_in a0 n156 ∧ vp_in (mI m (q123 + 2) (Int32.toNatClampNeg a0)) 6 ∧ K (.inl none) (mSetI m (32 + 2 * (Int32.toNatClampNeg (mI m 18 (Int32.toNatClampNeg a2)))) (Int32.toNatClampNeg (mI m (q123 + 2) (Int32.toNatClampNeg a0))) a1)))) ∧ (¬ a0 < (mI m q123 0) → V m3_match 84 [some (.ref 12), some (.int a0), some (.int a1), some (.int a2), some (.ref (31 + 2 * (Int32.toNatClampNeg (mI m 18 (Int32.toNatClampNeg a2))))), some (.int 1), some (.ref q123), some (.int a0), none] [] m K))))))))) ∧ (¬ (1 : Int32) = 0 → ((mR m (31 + 2 * (Int32.toNatClampNeg (mI m 18 (Int32.toNatClampNeg a2)))) 1 = none → (((1 : Int32) = 0 → V m3_match 84 [some (.ref 12), some (.int a0), some (.int a1), some (.int a2), some (.ref (31 + 2 * (Int32.toNatClampNeg (mI m 18 (Int32.toNatClampNeg a2))))), some (.int 1), some .null, some (.int (a0 - 12)), none] [] m K) ∧ (¬ (1 : Int32) = 0 → V m3_match 84 [some (.ref 12), some (.int a0), some (.int a1), some (.int a2), some (.ref (31 + 2 * (Int32.toNatClampNeg (mI m 18 (Int32.toNatClampNeg a2))))), some (.int 1), some .null, some (.int a0), none] [] m K))) ∧ (∀ q181 : Nat, mR m (31 + 2 * (Int32.toNatClampNeg (mI m 18 (Int32.toNatClampNeg a2)))) 1 = some q181 → (((1 : Int32) = 0 → (((a0 - 12) < 0 → V m3_match 84 [some (.ref 12), some (.int a0), some (.int a1), some (.int a2), some (.ref (31 + 2 * (Int32.toNatClampNeg (mI m 18 (Int32.toNatClampNeg a2))))), some (.int 1), some (.ref q181), some (.int (a0 - 12)), none] [] m K) ∧ (¬ (a0 - 12) < 0 → ∃ n187 : Nat, isExp m q181 n187 ∧ (((a0 - 12) < (mI m q181 0) → vp_in (a0 - 12) n187 ∧ ((¬ (mI m (q181 + 1) (Int32.toNatClampNeg (a0 - 12))) = 0 → C m10_find [(.ref 13), (.int a1)] m (fun o m191 => ∃ x193 : Int32, o = .inl (some (.int x193)) ∧ St m191 ∧ C m3_isForced [(.ref 12), (.int x193)] m191 (fun o m194 => ∃ x196 : Int32, o = .inl (some (.int x196)) ∧ St m194 ∧ ((¬ x196 = 0 → isExp m194 q181 n187 ∧ vp_in (a0 - 12) n187 ∧ C m3_isKind [(.ref 12), (.int x193), (.int (mI m194 (q181 + 2) (Int32.toNatClampNeg (a0 - 12)))), (.int a2)] m194 (fun o m200 => ∃ x202 : Int32, o = .inl (some (.int x202)) ∧ St m200 ∧ ((x202 = 0 → V m3_match 188 [some (.ref 12), some (.int a0), some (.int a1), some (.int a2), some (.ref (31 + 2 * (Int32.toNatClampNeg (mI m 18 (Int32.toNatClampNeg a2))))), some (.int 1), some (.ref q181), some (.int (a0 - 12)), some (.int x193)] [] m200 K) ∧ (¬ x202 = 0 → C m3_matchParts [(.ref 12), (.ref q181), (.int (a0 - 12)), (.int (a0 - (a0 - 12))), (.int x193), (.int a2)] m200 (fun o m204 => o = .inl none ∧ St m204 ∧ V m3_match 188 [some (.ref 12), some (.int a0), some (.int a1), some (.int a2), some (.ref (31 + 2 * (Int32.toNatClampNeg (mI m 18 (Int32.toNatClampNeg a2))))), some (.int 1), some (.ref q181), some (.int (a0 - 12)), some (.int x193)] [] m204 K))))) ∧ (x196 = 0 → C m9_push [(.ref 23), (.int 2), (.int a0), (.int a1), (.int a2)] m194 (fun o m206 => o = .inl none ∧ St m206 ∧ C m9_push_ [(.ref 23), (.int 0), (.int x193)] m206 (fun o m208 => o = .inl none ∧ St m208 ∧ V m3_match 188 [some (.ref 12), some (.int a0), some (.int a1), some (.int a2), some (.ref (31 + 2 * (Int32.toNatClampNeg (mI m 18 (Int32.toNatClampNeg a2))))), some (.int 1), some (.ref q181), some (.int (a0 - 12)), some (.int x193)] [] m208 K))))))) ∧ ((mI m (q181 + 1) (Int32.toNatClampNeg (a0 - 12))) = 0 → vp_in (a0 - 12) n187 ∧ vp_in (mI m (q181 + 2) (Int32.toNatClampNeg (a0 - 12))) 6 ∧ K (.inl none) (mSetI m (32 + 2 * (Int32.toNatClampNeg (mI m 18 (Int32.toNatClampNeg a2)))) (Int32.toNatClampNeg (mI m (q181 + 2) (Int32.toNatClampNeg (a0 - 12)))) a1)))) ∧ (¬ (a0 - 12) < (mI m q181 0) → V m3_match 84 [some (.ref 12), some (.int a0), some (.int a1), some (.int a2), some (.ref (31 + 2 * (Int32.toNatClampNeg (mI m 18 (Int32.toNatClampNeg a2))))), some (.int 1), some (.ref q181), some (.int (a0 - 12)), none] [] m K))))) ∧ (¬ (1 : Int32) = 0 → ((a0 < 0 → V m3_match 84 [some (.ref 12), some (.int a0), some (.int a1), some (.int a2), some (.ref (31 + 2 * (Int32.toNatClampNeg (mI m 18 (Int32.toNatClampNeg a2))))), some (.int 1), some (.ref q181), some (.int a0), none] [] m K) ∧ (¬ a0 < 0 → ∃ n214 : Nat, isExp m q181 n214 ∧ ((a0 < (mI m q181 0) → vp_in a0 n214 ∧ ((¬ (mI m (q181 + 1) (Int32.toNatClampNeg a0)) = 0 → C m10_find [(.ref 13), (.int a1)] m (fun o m218 => ∃ x220 : Int32, o = .inl (some (.int x220)) ∧ St m218 ∧ C m3_isForced [(.ref 12), (.int x220)] m218 (fun o m221 => ∃ x223 : Int32, o = .inl (some (.int x223)) ∧ St m221 ∧ ((¬ x223 = 0 → isExp m221 q181 n214 ∧ vp_in a0 n214 ∧ C m3_isKind [(.ref 12), (.int x220), (.int (mI m221 (q181 + 2) (Int32.toNatClampNeg a0))), (.int a2)] m221 (fun o m227 => ∃ x229 : Int32, o = .inl (some (.int x229)) ∧ St m227 ∧ ((x229 = 0 → V m3_match 188 [some (.ref 12), some (.int a0), some (.int a1), some (.int a2), some (.ref (31 + 2 * (Int32.toNatClampNeg (mI m 18 (Int32.toNatClampNeg a2))))), some (.int 1), some (.ref q181), some (.int a0), some (.int x220)] [] m227 K) ∧ (¬ x229 = 0 → C m3_matchParts [(.ref 12), (.ref q181), (.int a0), (.int (a0 - a0)), (.int x220), (.int a2)] m227 (fun o m231 => o = .inl none ∧ St m231 ∧ V m3_match 188 [some (.ref 12), some (.int a0), some (.int a1), some (.int a2), some (.ref (31 + 2 * (Int32.toNatClampNeg (mI m 18 (Int32.toNatClampNeg a2))))), some (.int 1), some (.ref q181), some (.int a0), some (.int x220)] [] m231 K))))) ∧ (x223 = 0 → C m9_push [(.ref 23), (.int 2), (.int a0), (.int a1), (.int a2)] m221 (fun o m233 => o = .inl none ∧ St m233 ∧ C m9_push_ [(.ref 23), (.int 0), (.int x220)] m233 (fun o m235 => o = .inl none ∧ St m235 ∧ V m3_match 188 [some (.ref 12), some (.int a0), some (.int a1), some (.int a2), some (.ref (31 + 2 * (Int32.toNatClampNeg (mI m 18 (Int32.toNatClampNeg a2))))), some (.int 1), some (.ref q181), some (.int a0), some (.int x220)] [] m235 K))))))) ∧ ((mI m (q181 + 1) (Int32.toNatClampNeg a0)) = 0 → vp_in a0 n214 ∧ vp_in (mI m (q181 + 2) (Int32.toNatClampNeg a0)) 6 ∧ K (.inl none) (mSetI m (32 + 2 * (Int32.toNatClampNeg (mI m 18 (Int32.toNatClampNeg a2)))) (Int32.toNatClampNeg (mI m (q181 + 2) (Int32.toNatClampNeg a0))) a1)))) ∧ (¬ a0 < (mI m q181 0) → V m3_match 84 [some (.ref 12), some (.int a0), some (.int a1), some (.int a2), some (.ref (31 + 2 * (Int32.toNatClampNeg (mI m 18 (Int32.toNatClampNeg a2))))), some (.int 1), some (.ref q181), some (.int a0), none] [] m K))))))))))))) : V m3_match 0 [some (.ref 12), some (.int a0), some (.int a1), some (.int a2), none, none, none, none, none] [] m K := by
  refine r_aload_n (y := m3_match) dX3_match_0 rfl rfl ?_
  refine g_X3_27 (y := m3_match) rfl dX3_match_1 hm ?_
  refine r_aload_n (y := m3_match) dX3_match_4 rfl rfl ?_
  refine g_X3_12 (y := m3_match) rfl dX3_match_5 hm ?_
  refine g_X3_270 (y := m3_match) rfl dX3_match_8 hm ?_
  refine r_iload_n (y := m3_match) dX3_match_11 rfl rfl ?_
  obtain ⟨hb1, h⟩ := h
  refine r_iald (y := m3_match) (n := 3500) dX3_match_12 (sa_18 hm) hb1 ?_
  obtain ⟨hb2, h⟩ := h
  have hl3 := vp_lt hb2
  refine r_aald (y := m3_match) (n := 102) (r := some (31 + 2 * (Int32.toNatClampNeg (mI m 18 (Int32.toNatClampNeg a2))))) dX3_match_13 (sa_28 hm) (by decide) (by decide) hb2 (sr_sc hm hl3) ?_
  refine r_astore (y := m3_match) (L' := [some (.ref 12), some (.int a0), some (.int a1), some (.int a2), some (.ref (31 + 2 * (Int32.toNatClampNeg (mI m 18 (Int32.toNatClampNeg a2))))), none, none, none, none]) dX3_match_14 (Nat.le_of_ble_eq_true rfl) rfl ?_
  refine r_iload_n (y := m3_match) dX3_match_16 rfl rfl ?_
  refine r_bipush (y := m3_match) (v := 12) dX3_match_17 (by decide) ?_
  refine r_icmp_ge (y := m3_match) (tgt := 26) dX3_match_19 (by decide) (fun hc4 => ?_) (fun hc4 => ?_)
  · have h := h.1 hc4
    refine r_iconst (y := m3_match) (v := 0) dX3_match_26 (by decide) ?_
    refine r_istore (y := m3_match) (L' := [some (.ref 12), some (.int a0), some (.int a1), some (.int a2), some (.ref (31 + 2 * (Int32.toNatClampNeg (mI m 18 (Int32.toNatClampNeg a2))))), some (.int 0), none, none, none]) dX3_match_27 (Nat.le_of_ble_eq_true rfl) rfl ?_
    refine r_iload (y := m3_match) dX3_match_29 rfl ?_
    refine r_if_eq (y := m3_match) (tgt := 42) dX3_match_31 (by decide) (fun hc5 => ?_) (fun hc5 => ?_)
    · have h := h.1 hc5
      refine r_aload (y := m3_match) dX3_match_42 rfl ?_
      rcases hq7 : mR m (31 + 2 * (Int32.toNatClampNeg (mI m 18 (Int32.toNatClampNeg a2)))) 2 with _ | q6
      · have h := h.1 hq7
        refine g_X3_284 (y := m3_match) (i := (Int32.toNatClampNeg (mI m 18 (Int32.toNatClampNeg a2)))) rfl dX3_match_44 hm hl3 (q := none) hq7 ?_
        refine r_astoreN (y := m3_match) (L' := [some (.ref 12), some (.int a0), some (.int a1), some (.int a2), some (.ref (31 + 2 * (Int32.toNatClampNeg (mI m 18 (Int32.toNatClampNeg a2))))), some (.int 0), some .null, none, none]) dX3_match_47 (Nat.le_of_ble_eq_true rfl) rfl ?_
        refine r_iload (y := m3_match) dX3_match_49 rfl ?_
        refine r_if_eq (y := m3_match) (tgt := 58) dX3_match_51 (by decide) (fun hc8 => ?_) (fun hc8 => ?_)
        · have h := h.1 hc8
          refine r_iload_n (y := m3_match) dX3_match_58 rfl rfl ?_
          refine r_bipush (y := m3_match) (v := 12) dX3_match_59 (by decide) ?_
          refine r_isub (y := m3_match) dX3_match_61 ?_
          refine r_istore (y := m3_match) (L' := [some (.ref 12), some (.int a0), some (.int a1), some (.int a2), some (.ref (31 + 2 * (Int32.toNatClampNeg (mI m 18 (Int32.toNatClampNeg a2))))), some (.int 0), some .null, some (.int (a0 - 12)), none]) dX3_match_62 (Nat.le_of_ble_eq_true rfl) rfl ?_
          refine r_aloadN (y := m3_match) dX3_match_64 rfl ?_
          refine r_ifnullN (y := m3_match) (tgt := 84) dX3_match_66 (by decide) ?_
          exact h
        · have h := h.2 hc8
          refine r_iload_n (y := m3_match) dX3_match_54 rfl rfl ?_
          refine r_goto (y := m3_match) (tgt := 62) dX3_match_55 (by decide) ?_
          refine r_istore (y := m3_match) (L' := [some (.ref 12), some (.int a0), some (.int a1), some (.int a2), some (.ref (31 + 2 * (Int32.toNatClampNeg (mI m 18 (Int32.toNatClampNeg a2))))), some (.int 0), some .null, some (.int a0), none]) dX3_match_62 (Nat.le_of_ble_eq_true rfl) rfl ?_
          refine r_aloadN (y := m3_match) dX3_match_64 rfl ?_
          refine r_ifnullN (y := m3_match) (tgt := 84) dX3_match_66 (by decide) ?_
          exact h
      · have h := h.2 q6 hq7
        refine g_X3_284 (y := m3_match) (i := (Int32.toNatClampNeg (mI m 18 (Int32.toNatClampNeg a2)))) rfl dX3_match_44 hm hl3 (q := some q6) hq7 ?_
        refine r_astore (y := m3_match) (L' := [some (.ref 12), some (.int a0), some (.int a1), some (.int a2), some (.ref (31 + 2 * (Int32.toNatClampNeg (mI m 18 (Int32.toNatClampNeg a2))))), some (.int 0), some (.ref q6), none, none]) dX3_match_47 (Nat.le_of_ble_eq_true rfl) rfl ?_
        refine r_iload (y := m3_match) dX3_match_49 rfl ?_
        refine r_if_eq (y := m3_match) (tgt := 58) dX3_match_51 (by decide) (fun hc9 => ?_) (fun hc9 => ?_)
        · have h := h.1 hc9
          refine r_iload_n (y := m3_match) dX3_match_58 rfl rfl ?_
          refine r_bipush (y := m3_match) (v := 12) dX3_match_59 (by decide) ?_
          refine r_isub (y := m3_match) dX3_match_61 ?_
          refine r_istore (y := m3_match) (L' := [some (.ref 12), some (.int a0), some (.int a1), some (.int a2), some (.ref (31 + 2 * (Int32.toNatClampNeg (mI m 18 (Int32.toNatClampNeg a2))))), some (.int 0), some (.ref q6), some (.int (a0 - 12)), none]) dX3_match_62 (Nat.le_of_ble_eq_true rfl) rfl ?_
          refine r_aload (y := m3_match) dX3_match_64 rfl ?_
          refine r_ifnull (y := m3_match) dX3_match_66 ?_
          refine r_iload (y := m3_match) dX3_match_69 rfl ?_
          refine r_if_lt (y := m3_match) (tgt := 84) dX3_match_71 (by decide) (fun hc10 => ?_) (fun hc10 => ?_)
          · have h := h.1 hc10
            exact h
          · have h := h.2 hc10
            refine r_iload (y := m3_match) dX3_match_74 rfl ?_
            refine r_aload (y := m3_match) dX3_match_76 rfl ?_
            obtain ⟨n12, hx11, h⟩ := h
            refine g_X3_84 (y := m3_match) rfl dX3_match_78 hx11 ?_
            refine r_icmp_lt (y := m3_match) (tgt := 85) dX3_match_81 (by decide) (fun hc13 => ?_) (fun hc13 => ?_)
            · have h := h.1 hc13
              refine r_aload (y := m3_match) dX3_match_85 rfl ?_
              refine g_X3_199 (y := m3_match) rfl dX3_match_87 hx11 ?_
              refine r_iload (y := m3_match) dX3_match_90 rfl ?_
              obtain ⟨hb14, h⟩ := h
              refine r_iald (y := m3_match) (n := n12) dX3_match_92 (hx11.2 1 (by decide) (by decide)).2 hb14 ?_
              refine r_if_ne (y := m3_match) (tgt := 112) dX3_match_93 (by decide) (fun hc15 => ?_) (fun hc15 => ?_)
              · have h := h.1 hc15
                refine r_aload_n (y := m3_match) dX3_match_112 rfl rfl ?_
                refine g_X3_12 (y := m3_match) rfl dX3_match_113 hm ?_
                refine r_iload_n (y := m3_match) dX3_match_116 rfl rfl ?_
                refine r_callVN (y := m3_match) (As := [(.int a1)]) (b := 13) (ci := 10) dX3_match_117 rfl k10_find lm_X3_123 rfl ⟨by decide, by decide⟩ (so_13 hm) (by decide) rfl (Nat.le_of_ble_eq_true rfl) (C.mono h ?_)
                rintro _ m16 ⟨x18, rfl, hm17, h⟩
                refine ⟨_, rfl, ?_⟩
                refine r_istore (y := m3_match) (L' := [some (.ref 12), some (.int a0), some (.int a1), some (.int a2), some (.ref (31 + 2 * (Int32.toNatClampNeg (mI m 18 (Int32.toNatClampNeg a2))))), some (.int 0), some (.ref q6), some (.int (a0 - 12)), some (.int x18)]) dX3_match_120 (Nat.le_of_ble_eq_true rfl) rfl ?_
                refine r_aload_n (y := m3_match) dX3_match_122 rfl rfl ?_
                refine r_iload (y := m3_match) dX3_match_123 rfl ?_
                refine r_callV (y := m3_match) (As := [(.int x18)]) (b := 12) (ci := 3) dX3_match_125 rfl k3_isForced lm_X3_237 rfl ⟨by decide, by decide⟩ (so_12 hm17) (by decide) rfl (Nat.le_of_ble_eq_true rfl) (C.mono h ?_)
                rintro _ m19 ⟨x21, rfl, hm20, h⟩
                refine ⟨_, rfl, ?_⟩
                refine r_if_ne (y := m3_match) (tgt := 155) dX3_match_128 (by decide) (fun hc22 => ?_) (fun hc22 => ?_)
                · have h := h.1 hc22
                  refine r_aload_n (y := m3_match) dX3_match_155 rfl rfl ?_
                  refine r_iload (y := m3_match) dX3_match_156 rfl ?_
                  refine r_aload (y := m3_match) dX3_match_158 rfl ?_
                  obtain ⟨hx23, h⟩ := h
                  refine g_X3_202 (y := m3_match) rfl dX3_match_160 hx23 ?_
                  refine r_iload (y := m3_match) dX3_match_163 rfl ?_
                  obtain ⟨hb24, h⟩ := h
                  refine r_iald (y := m3_match) (n := n12) dX3_match_165 (hx23.2 2 (by decide) (by decide)).2 hb24 ?_
                  refine r_iload_n (y := m3_match) dX3_match_166 rfl rfl ?_
                  refine r_callV (y := m3_match) (As := [(.int x18), (.int (mI m19 (q6 + 2) (Int32.toNatClampNeg (a0 - 12)))), (.int a2)]) (b := 12) (ci := 3) dX3_match_167 rfl k3_isKind lm_X3_285 rfl ⟨by decide, by decide⟩ (so_12 hm20) (by decide) rfl (Nat.le_of_ble_eq_true rfl) (C.mono h ?_)
                  rintro _ m25 ⟨x27, rfl, hm26, h⟩
                  refine ⟨_, rfl, ?_⟩
                  refine r_if_eq (y := m3_match) (tgt := 188) dX3_match_170 (by decide) (fun hc28 => ?_) (fun hc28 => ?_)
                  · have h := h.1 hc28
                    exact h
                  · have h := h.2 hc28
                    refine r_aload_n (y := m3_match) dX3_match_173 rfl rfl ?_
                    refine r_aload (y := m3_match) dX3_match_174 rfl ?_
                    refine r_iload (y := m3_match) dX3_match_176 rfl ?_
                    refine r_iload_n (y := m3_match) dX3_match_178 rfl rfl ?_
                    refine r_iload (y := m3_match) dX3_match_179 rfl ?_
                    refine r_isub (y := m3_match) dX3_match_181 ?_
                    refine r_iload (y := m3_match) dX3_match_182 rfl ?_
                    refine r_iload_n (y := m3_match) dX3_match_184 rfl rfl ?_
                    refine r_callV (y := m3_match) (As := [(.ref q6), (.int (a0 - 12)), (.int (a0 - (a0 - 12))), (.int x18), (.int a2)]) (b := 12) (ci := 3) dX3_match_185 rfl k3_matchParts lm_X3_289 rfl ⟨by decide, by decide⟩ (so_12 hm26) (by decide) rfl (Nat.le_of_ble_eq_true rfl) (C.mono h ?_)
                    rintro _ m29 ⟨rfl, hm30, h⟩
                    refine ⟨none, rfl, ?_⟩
                    exact h
                · have h := h.2 hc22
                  refine r_aload_n (y := m3_match) dX3_match_131 rfl rfl ?_
                  refine g_X3_21 (y := m3_match) rfl dX3_match_132 hm20 ?_
                  refine r_iconst (y := m3_match) (v := 2) dX3_match_135 (by decide) ?_
                  refine r_iload_n (y := m3_match) dX3_match_136 rfl rfl ?_
                  refine r_iload_n (y := m3_match) dX3_match_137 rfl rfl ?_
                  refine r_iload_n (y := m3_match) dX3_match_138 rfl rfl ?_
                  refine r_callVN (y := m3_match) (As := [(.int 2), (.int a0), (.int a1), (.int a2)]) (b := 23) (ci := 9) dX3_match_139 rfl k9_push lm_X3_186 rfl ⟨by decide, by decide⟩ (so_23 hm20) (by decide) rfl (Nat.le_of_ble_eq_true rfl) (C.mono h ?_)
                  rintro _ m31 ⟨rfl, hm32, h⟩
                  refine ⟨none, rfl, ?_⟩
                  refine r_aload_n (y := m3_match) dX3_match_142 rfl rfl ?_
                  refine g_X3_21 (y := m3_match) rfl dX3_match_143 hm32 ?_
                  refine r_iconst (y := m3_match) (v := 0) dX3_match_146 (by decide) ?_
                  refine r_iload (y := m3_match) dX3_match_147 rfl ?_
                  refine r_callVN (y := m3_match) (As := [(.int 0), (.int x18)]) (b := 23) (ci := 9) dX3_match_149 rfl k9_push_ lm_X3_93 rfl ⟨by decide, by decide⟩ (so_23 hm32) (by decide) rfl (Nat.le_of_ble_eq_true rfl) (C.mono h ?_)
                  rintro _ m33 ⟨rfl, hm34, h⟩
                  refine ⟨none, rfl, ?_⟩
                  refine r_goto (y := m3_match) (tgt := 188) dX3_match_152 (by decide) ?_
                  exact h
              · have h := h.2 hc15
                refine r_aload (y := m3_match) dX3_match_96 rfl ?_
                refine g_X3_192 (y := m3_match) (i := (Int32.toNatClampNeg (mI m 18 (Int32.toNatClampNeg a2)))) rfl dX3_match_98 hm hl3 ?_
                refine r_aload (y := m3_match) dX3_match_101 rfl ?_
                refine g_X3_202 (y := m3_match) rfl dX3_match_103 hx11 ?_
                refine r_iload (y := m3_match) dX3_match_106 rfl ?_
                obtain ⟨hb35, h⟩ := h
                refine r_iald (y := m3_match) (n := n12) dX3_match_108 (hx11.2 2 (by decide) (by decide)).2 hb35 ?_
                refine r_iload_n (y := m3_match) dX3_match_109 rfl rfl ?_
                obtain ⟨hb36, h⟩ := h
                refine r_iast (y := m3_match) (n := 6) dX3_match_110 (sa_st hm hl3) hb36 ?_
                exact r_ret (y := m3_match) dX3_match_111 rfl h
            · have h := h.2 hc13
              exact h
        · have h := h.2 hc9
          refine r_iload_n (y := m3_match) dX3_match_54 rfl rfl ?_
          refine r_goto (y := m3_match) (tgt := 62) dX3_match_55 (by decide) ?_
          refine r_istore (y := m3_match) (L' := [some (.ref 12), some (.int a0), some (.int a1), some (.int a2), some (.ref (31 + 2 * (Int32.toNatClampNeg (mI m 18 (Int32.toNatClampNeg a2))))), some (.int 0), some (.ref q6), some (.int a0), none]) dX3_match_62 (Nat.le_of_ble_eq_true rfl) rfl ?_
          refine r_aload (y := m3_match) dX3_match_64 rfl ?_
          refine r_ifnull (y := m3_match) dX3_match_66 ?_
          refine r_iload (y := m3_match) dX3_match_69 rfl ?_
          refine r_if_lt (y := m3_match) (tgt := 84) dX3_match_71 (by decide) (fun hc37 => ?_) (fun hc37 => ?_)
          · have h := h.1 hc37
            exact h
          · have h := h.2 hc37
            refine r_iload (y := m3_match) dX3_match_74 rfl ?_
            refine r_aload (y := m3_match) dX3_match_76 rfl ?_
            obtain ⟨n39, hx38, h⟩ := h
            refine g_X3_84 (y := m3_match) rfl dX3_match_78 hx38 ?_
            refine r_icmp_lt (y := m3_match) (tgt := 85) dX3_match_81 (by decide) (fun hc40 => ?_) (fun hc40 => ?_)
            · have h := h.1 hc40
              refine r_aload (y := m3_match) dX3_match_85 rfl ?_
              refine g_X3_199 (y := m3_match) rfl dX3_match_87 hx38 ?_
              refine r_iload (y := m3_match) dX3_match_90 rfl ?_
              obtain ⟨hb41, h⟩ := h
              refine r_iald (y := m3_match) (n := n39) dX3_match_92 (hx38.2 1 (by decide) (by decide)).2 hb41 ?_
              refine r_if_ne (y := m3_match) (tgt := 112) dX3_match_93 (by decide) (fun hc42 => ?_) (fun hc42 => ?_)
              · have h := h.1 hc42
                refine r_aload_n (y := m3_match) dX3_match_112 rfl rfl ?_
                refine g_X3_12 (y := m3_match) rfl dX3_match_113 hm ?_
                refine r_iload_n (y := m3_match) dX3_match_116 rfl rfl ?_
                refine r_callVN (y := m3_match) (As := [(.int a1)]) (b := 13) (ci := 10) dX3_match_117 rfl k10_find lm_X3_123 rfl ⟨by decide, by decide⟩ (so_13 hm) (by decide) rfl (Nat.le_of_ble_eq_true rfl) (C.mono h ?_)
                rintro _ m43 ⟨x45, rfl, hm44, h⟩
                refine ⟨_, rfl, ?_⟩
                refine r_istore (y := m3_match) (L' := [some (.ref 12), some (.int a0), some (.int a1), some (.int a2), some (.ref (31 + 2 * (Int32.toNatClampNeg (mI m 18 (Int32.toNatClampNeg a2))))), some (.int 0), some (.ref q6), some (.int a0), some (.int x45)]) dX3_match_120 (Nat.le_of_ble_eq_true rfl) rfl ?_
                refine r_aload_n (y := m3_match) dX3_match_122 rfl rfl ?_
                refine r_iload (y := m3_match) dX3_match_123 rfl ?_
                refine r_callV (y := m3_match) (As := [(.int x45)]) (b := 12) (ci := 3) dX3_match_125 rfl k3_isForced lm_X3_237 rfl ⟨by decide, by decide⟩ (so_12 hm44) (by decide) rfl (Nat.le_of_ble_eq_true rfl) (C.mono h ?_)
                rintro _ m46 ⟨x48, rfl, hm47, h⟩
                refine ⟨_, rfl, ?_⟩
                refine r_if_ne (y := m3_match) (tgt := 155) dX3_match_128 (by decide) (fun hc49 => ?_) (fun hc49 => ?_)
                · have h := h.1 hc49
                  refine r_aload_n (y := m3_match) dX3_match_155 rfl rfl ?_
                  refine r_iload (y := m3_match) dX3_match_156 rfl ?_
                  refine r_aload (y := m3_match) dX3_match_158 rfl ?_
                  obtain ⟨hx50, h⟩ := h
                  refine g_X3_202 (y := m3_match) rfl dX3_match_160 hx50 ?_
                  refine r_iload (y := m3_match) dX3_match_163 rfl ?_
                  obtain ⟨hb51, h⟩ := h
                  refine r_iald (y := m3_match) (n := n39) dX3_match_165 (hx50.2 2 (by decide) (by decide)).2 hb51 ?_
                  refine r_iload_n (y := m3_match) dX3_match_166 rfl rfl ?_
                  refine r_callV (y := m3_match) (As := [(.int x45), (.int (mI m46 (q6 + 2) (Int32.toNatClampNeg a0))), (.int a2)]) (b := 12) (ci := 3) dX3_match_167 rfl k3_isKind lm_X3_285 rfl ⟨by decide, by decide⟩ (so_12 hm47) (by decide) rfl (Nat.le_of_ble_eq_true rfl) (C.mono h ?_)
                  rintro _ m52 ⟨x54, rfl, hm53, h⟩
                  refine ⟨_, rfl, ?_⟩
                  refine r_if_eq (y := m3_match) (tgt := 188) dX3_match_170 (by decide) (fun hc55 => ?_) (fun hc55 => ?_)
                  · have h := h.1 hc55
                    exact h
                  · have h := h.2 hc55
                    refine r_aload_n (y := m3_match) dX3_match_173 rfl rfl ?_
                    refine r_aload (y := m3_match) dX3_match_174 rfl ?_
                    refine r_iload (y := m3_match) dX3_match_176 rfl ?_
                    refine r_iload_n (y := m3_match) dX3_match_178 rfl rfl ?_
                    refine r_iload (y := m3_match) dX3_match_179 rfl ?_
                    refine r_isub (y := m3_match) dX3_match_181 ?_
                    refine r_iload (y := m3_match) dX3_match_182 rfl ?_
                    refine r_iload_n (y := m3_match) dX3_match_184 rfl rfl ?_
                    refine r_callV (y := m3_match) (As := [(.ref q6), (.int a0), (.int (a0 - a0)), (.int x45), (.int a2)]) (b := 12) (ci := 3) dX3_match_185 rfl k3_matchParts lm_X3_289 rfl ⟨by decide, by decide⟩ (so_12 hm53) (by decide) rfl (Nat.le_of_ble_eq_true rfl) (C.mono h ?_)
                    rintro _ m56 ⟨rfl, hm57, h⟩
                    refine ⟨none, rfl, ?_⟩
                    exact h
                · have h := h.2 hc49
                  refine r_aload_n (y := m3_match) dX3_match_131 rfl rfl ?_
                  refine g_X3_21 (y := m3_match) rfl dX3_match_132 hm47 ?_
                  refine r_iconst (y := m3_match) (v := 2) dX3_match_135 (by decide) ?_
                  refine r_iload_n (y := m3_match) dX3_match_136 rfl rfl ?_
                  refine r_iload_n (y := m3_match) dX3_match_137 rfl rfl ?_
                  refine r_iload_n (y := m3_match) dX3_match_138 rfl rfl ?_
                  refine r_callVN (y := m3_match) (As := [(.int 2), (.int a0), (.int a1), (.int a2)]) (b := 23) (ci := 9) dX3_match_139 rfl k9_push lm_X3_186 rfl ⟨by decide, by decide⟩ (so_23 hm47) (by decide) rfl (Nat.le_of_ble_eq_true rfl) (C.mono h ?_)
                  rintro _ m58 ⟨rfl, hm59, h⟩
                  refine ⟨none, rfl, ?_⟩
                  refine r_aload_n (y := m3_match) dX3_match_142 rfl rfl ?_
                  refine g_X3_21 (y := m3_match) rfl dX3_match_143 hm59 ?_
                  refine r_iconst (y := m3_match) (v := 0) dX3_match_146 (by decide) ?_
                  refine r_iload (y := m3_match) dX3_match_147 rfl ?_
                  refine r_callVN (y := m3_match) (As := [(.int 0), (.int x45)]) (b := 23) (ci := 9) dX3_match_149 rfl k9_push_ lm_X3_93 rfl ⟨by decide, by decide⟩ (so_23 hm59) (by decide) rfl (Nat.le_of_ble_eq_true rfl) (C.mono h ?_)
                  rintro _ m60 ⟨rfl, hm61, h⟩
                  refine ⟨none, rfl, ?_⟩
                  refine r_goto (y := m3_match) (tgt := 188) dX3_match_152 (by decide) ?_
                  exact h
              · have h := h.2 hc42
                refine r_aload (y := m3_match) dX3_match_96 rfl ?_
                refine g_X3_192 (y := m3_match) (i := (Int32.toNatClampNeg (mI m 18 (Int32.toNatClampNeg a2)))) rfl dX3_match_98 hm hl3 ?_
                refine r_aload (y := m3_match) dX3_match_101 rfl ?_
                refine g_X3_202 (y := m3_match) rfl dX3_match_103 hx38 ?_
                refine r_iload (y := m3_match) dX3_match_106 rfl ?_
                obtain ⟨hb62, h⟩ := h
                refine r_iald (y := m3_match) (n := n39) dX3_match_108 (hx38.2 2 (by decide) (by decide)).2 hb62 ?_
                refine r_iload_n (y := m3_match) dX3_match_109 rfl rfl ?_
                obtain ⟨hb63, h⟩ := h
                refine r_iast (y := m3_match) (n := 6) dX3_match_110 (sa_st hm hl3) hb63 ?_
                exact r_ret (y := m3_match) dX3_match_111 rfl h
            · have h := h.2 hc40
              exact h
    · have h := h.2 hc5
      refine r_aload (y := m3_match) dX3_match_34 rfl ?_
      rcases hq65 : mR m (31 + 2 * (Int32.toNatClampNeg (mI m 18 (Int32.toNatClampNeg a2)))) 1 with _ | q64
      · have h := h.1 hq65
        refine g_X3_283 (y := m3_match) (i := (Int32.toNatClampNeg (mI m 18 (Int32.toNatClampNeg a2)))) rfl dX3_match_36 hm hl3 (q := none) hq65 ?_
        refine r_goto (y := m3_match) (tgt := 47) dX3_match_39 (by decide) ?_
        refine r_astoreN (y := m3_match) (L' := [some (.ref 12), some (.int a0), some (.int a1), some (.int a2), some (.ref (31 + 2 * (Int32.toNatClampNeg (mI m 18 (Int32.toNatClampNeg a2))))), some (.int 0), some .null, none, none]) dX3_match_47 (Nat.le_of_ble_eq_true rfl) rfl ?_
        refine r_iload (y := m3_match) dX3_match_49 rfl ?_
        refine r_if_eq (y := m3_match) (tgt := 58) dX3_match_51 (by decide) (fun hc66 => ?_) (fun hc66 => ?_)
        · have h := h.1 hc66
          refine r_iload_n (y := m3_match) dX3_match_58 rfl rfl ?_
          refine r_bipush (y := m3_match) (v := 12) dX3_match_59 (by decide) ?_
          refine r_isub (y := m3_match) dX3_match_61 ?_
          refine r_istore (y := m3_match) (L' := [some (.ref 12), some (.int a0), some (.int a1), some (.int a2), some (.ref (31 + 2 * (Int32.toNatClampNeg (mI m 18 (Int32.toNatClampNeg a2))))), some (.int 0), some .null, some (.int (a0 - 12)), none]) dX3_match_62 (Nat.le_of_ble_eq_true rfl) rfl ?_
          refine r_aloadN (y := m3_match) dX3_match_64 rfl ?_
          refine r_ifnullN (y := m3_match) (tgt := 84) dX3_match_66 (by decide) ?_
          exact h
        · have h := h.2 hc66
          refine r_iload_n (y := m3_match) dX3_match_54 rfl rfl ?_
          refine r_goto (y := m3_match) (tgt := 62) dX3_match_55 (by decide) ?_
          refine r_istore (y := m3_match) (L' := [some (.ref 12), some (.int a0), some (.int a1), some (.int a2), some (.ref (31 + 2 * (Int32.toNatClampNeg (mI m 18 (Int32.toNatClampNeg a2))))), some (.int 0), some .null, some (.int a0), none]) dX3_match_62 (Nat.le_of_ble_eq_true rfl) rfl ?_
          refine r_aloadN (y := m3_match) dX3_match_64 rfl ?_
          refine r_ifnullN (y := m3_match) (tgt := 84) dX3_match_66 (by decide) ?_
          exact h
      · have h := h.2 q64 hq65
        refine g_X3_283 (y := m3_match) (i := (Int32.toNatClampNeg (mI m 18 (Int32.toNatClampNeg a2)))) rfl dX3_match_36 hm hl3 (q := some q64) hq65 ?_
        refine r_goto (y := m3_match) (tgt := 47) dX3_match_39 (by decide) ?_
        refine r_astore (y := m3_match) (L' := [some (.ref 12), some (.int a0), some (.int a1), some (.int a2), some (.ref (31 + 2 * (Int32.toNatClampNeg (mI m 18 (Int32.toNatClampNeg a2))))), some (.int 0), some (.ref q64), none, none]) dX3_match_47 (Nat.le_of_ble_eq_true rfl) rfl ?_
        refine r_iload (y := m3_match) dX3_match_49 rfl ?_
        refine r_if_eq (y := m3_match) (tgt := 58) dX3_match_51 (by decide) (fun hc67 => ?_) (fun hc67 => ?_)
        · have h := h.1 hc67
          refine r_iload_n (y := m3_match) dX3_match_58 rfl rfl ?_
          refine r_bipush (y := m3_match) (v := 12) dX3_match_59 (by decide) ?_
          refine r_isub (y := m3_match) dX3_match_61 ?_
          refine r_istore (y := m3_match) (L' := [some (.ref 12), some (.int a0), some (.int a1), some (.int a2), some (.ref (31 + 2 * (Int32.toNatClampNeg (mI m 18 (Int32.toNatClampNeg a2))))), some (.int 0), some (.ref q64), some (.int (a0 - 12)), none]) dX3_match_62 (Nat.le_of_ble_eq_true rfl) rfl ?_
          refine r_aload (y := m3_match) dX3_match_64 rfl ?_
          refine r_ifnull (y := m3_match) dX3_match_66 ?_
          refine r_iload (y := m3_match) dX3_match_69 rfl ?_
          refine r_if_lt (y := m3_match) (tgt := 84) dX3_match_71 (by decide) (fun hc68 => ?_) (fun hc68 => ?_)
          · have h := h.1 hc68
            exact h
          · have h := h.2 hc68
            refine r_iload (y := m3_match) dX3_match_74 rfl ?_
            refine r_aload (y := m3_match) dX3_match_76 rfl ?_
            obtain ⟨n70, hx69, h⟩ := h
            refine g_X3_84 (y := m3_match) rfl dX3_match_78 hx69 ?_
            refine r_icmp_lt (y := m3_match) (tgt := 85) dX3_match_81 (by decide) (fun hc71 => ?_) (fun hc71 => ?_)
            · have h := h.1 hc71
              refine r_aload (y := m3_match) dX3_match_85 rfl ?_
              refine g_X3_199 (y := m3_match) rfl dX3_match_87 hx69 ?_
              refine r_iload (y := m3_match) dX3_match_90 rfl ?_
              obtain ⟨hb72, h⟩ := h
              refine r_iald (y := m3_match) (n := n70) dX3_match_92 (hx69.2 1 (by decide) (by decide)).2 hb72 ?_
              refine r_if_ne (y := m3_match) (tgt := 112) dX3_match_93 (by decide) (fun hc73 => ?_) (fun hc73 => ?_)
              · have h := h.1 hc73
                refine r_aload_n (y := m3_match) dX3_match_112 rfl rfl ?_
                refine g_X3_12 (y := m3_match) rfl dX3_match_113 hm ?_
                refine r_iload_n (y := m3_match) dX3_match_116 rfl rfl ?_
                refine r_callVN (y := m3_match) (As := [(.int a1)]) (b := 13) (ci := 10) dX3_match_117 rfl k10_find lm_X3_123 rfl ⟨by decide, by decide⟩ (so_13 hm) (by decide) rfl (Nat.le_of_ble_eq_true rfl) (C.mono h ?_)
                rintro _ m74 ⟨x76, rfl, hm75, h⟩
                refine ⟨_, rfl, ?_⟩
                refine r_istore (y := m3_match) (L' := [some (.ref 12), some (.int a0), some (.int a1), some (.int a2), some (.ref (31 + 2 * (Int32.toNatClampNeg (mI m 18 (Int32.toNatClampNeg a2))))), some (.int 0), some (.ref q64), some (.int (a0 - 12)), some (.int x76)]) dX3_match_120 (Nat.le_of_ble_eq_true rfl) rfl ?_
                refine r_aload_n (y := m3_match) dX3_match_122 rfl rfl ?_
                refine r_iload (y := m3_match) dX3_match_123 rfl ?_
                refine r_callV (y := m3_match) (As := [(.int x76)]) (b := 12) (ci := 3) dX3_match_125 rfl k3_isForced lm_X3_237 rfl ⟨by decide, by decide⟩ (so_12 hm75) (by decide) rfl (Nat.le_of_ble_eq_true rfl) (C.mono h ?_)
                rintro _ m77 ⟨x79, rfl, hm78, h⟩
                refine ⟨_, rfl, ?_⟩
                refine r_if_ne (y := m3_match) (tgt := 155) dX3_match_128 (by decide) (fun hc80 => ?_) (fun hc80 => ?_)
                · have h := h.1 hc80
                  refine r_aload_n (y := m3_match) dX3_match_155 rfl rfl ?_
                  refine r_iload (y := m3_match) dX3_match_156 rfl ?_
                  refine r_aload (y := m3_match) dX3_match_158 rfl ?_
                  obtain ⟨hx81, h⟩ := h
                  refine g_X3_202 (y := m3_match) rfl dX3_match_160 hx81 ?_
                  refine r_iload (y := m3_match) dX3_match_163 rfl ?_
                  obtain ⟨hb82, h⟩ := h
                  refine r_iald (y := m3_match) (n := n70) dX3_match_165 (hx81.2 2 (by decide) (by decide)).2 hb82 ?_
                  refine r_iload_n (y := m3_match) dX3_match_166 rfl rfl ?_
                  refine r_callV (y := m3_match) (As := [(.int x76), (.int (mI m77 (q64 + 2) (Int32.toNatClampNeg (a0 - 12)))), (.int a2)]) (b := 12) (ci := 3) dX3_match_167 rfl k3_isKind lm_X3_285 rfl ⟨by decide, by decide⟩ (so_12 hm78) (by decide) rfl (Nat.le_of_ble_eq_true rfl) (C.mono h ?_)
                  rintro _ m83 ⟨x85, rfl, hm84, h⟩
                  refine ⟨_, rfl, ?_⟩
                  refine r_if_eq (y := m3_match) (tgt := 188) dX3_match_170 (by decide) (fun hc86 => ?_) (fun hc86 => ?_)
                  · have h := h.1 hc86
                    exact h
                  · have h := h.2 hc86
                    refine r_aload_n (y := m3_match) dX3_match_173 rfl rfl ?_
                    refine r_aload (y := m3_match) dX3_match_174 rfl ?_
                    refine r_iload (y := m3_match) dX3_match_176 rfl ?_
                    refine r_iload_n (y := m3_match) dX3_match_178 rfl rfl ?_
                    refine r_iload (y := m3_match) dX3_match_179 rfl ?_
                    refine r_isub (y := m3_match) dX3_match_181 ?_
                    refine r_iload (y := m3_match) dX3_match_182 rfl ?_
                    refine r_iload_n (y := m3_match) dX3_match_184 rfl rfl ?_
                    refine r_callV (y := m3_match) (As := [(.ref q64), (.int (a0 - 12)), (.int (a0 - (a0 - 12))), (.int x76), (.int a2)]) (b := 12) (ci := 3) dX3_match_185 rfl k3_matchParts lm_X3_289 rfl ⟨by decide, by decide⟩ (so_12 hm84) (by decide) rfl (Nat.le_of_ble_eq_true rfl) (C.mono h ?_)
                    rintro _ m87 ⟨rfl, hm88, h⟩
                    refine ⟨none, rfl, ?_⟩
                    exact h
                · have h := h.2 hc80
                  refine r_aload_n (y := m3_match) dX3_match_131 rfl rfl ?_
                  refine g_X3_21 (y := m3_match) rfl dX3_match_132 hm78 ?_
                  refine r_iconst (y := m3_match) (v := 2) dX3_match_135 (by decide) ?_
                  refine r_iload_n (y := m3_match) dX3_match_136 rfl rfl ?_
                  refine r_iload_n (y := m3_match) dX3_match_137 rfl rfl ?_
                  refine r_iload_n (y := m3_match) dX3_match_138 rfl rfl ?_
                  refine r_callVN (y := m3_match) (As := [(.int 2), (.int a0), (.int a1), (.int a2)]) (b := 23) (ci := 9) dX3_match_139 rfl k9_push lm_X3_186 rfl ⟨by decide, by decide⟩ (so_23 hm78) (by decide) rfl (Nat.le_of_ble_eq_true rfl) (C.mono h ?_)
                  rintro _ m89 ⟨rfl, hm90, h⟩
                  refine ⟨none, rfl, ?_⟩
                  refine r_aload_n (y := m3_match) dX3_match_142 rfl rfl ?_
                  refine g_X3_21 (y := m3_match) rfl dX3_match_143 hm90 ?_
                  refine r_iconst (y := m3_match) (v := 0) dX3_match_146 (by decide) ?_
                  refine r_iload (y := m3_match) dX3_match_147 rfl ?_
                  refine r_callVN (y := m3_match) (As := [(.int 0), (.int x76)]) (b := 23) (ci := 9) dX3_match_149 rfl k9_push_ lm_X3_93 rfl ⟨by decide, by decide⟩ (so_23 hm90) (by decide) rfl (Nat.le_of_ble_eq_true rfl) (C.mono h ?_)
                  rintro _ m91 ⟨rfl, hm92, h⟩
                  refine ⟨none, rfl, ?_⟩
                  refine r_goto (y := m3_match) (tgt := 188) dX3_match_152 (by decide) ?_
                  exact h
              · have h := h.2 hc73
                refine r_aload (y := m3_match) dX3_match_96 rfl ?_
                refine g_X3_192 (y := m3_match) (i := (Int32.toNatClampNeg (mI m 18 (Int32.toNatClampNeg a2)))) rfl dX3_match_98 hm hl3 ?_
                refine r_aload (y := m3_match) dX3_match_101 rfl ?_
                refine g_X3_202 (y := m3_match) rfl dX3_match_103 hx69 ?_
                refine r_iload (y := m3_match) dX3_match_106 rfl ?_
                obtain ⟨hb93, h⟩ := h
                refine r_iald (y := m3_match) (n := n70) dX3_match_108 (hx69.2 2 (by decide) (by decide)).2 hb93 ?_
                refine r_iload_n (y := m3_match) dX3_match_109 rfl rfl ?_
                obtain ⟨hb94, h⟩ := h
                refine r_iast (y := m3_match) (n := 6) dX3_match_110 (sa_st hm hl3) hb94 ?_
                exact r_ret (y := m3_match) dX3_match_111 rfl h
            · have h := h.2 hc71
              exact h
        · have h := h.2 hc67
          refine r_iload_n (y := m3_match) dX3_match_54 rfl rfl ?_
          refine r_goto (y := m3_match) (tgt := 62) dX3_match_55 (by decide) ?_
          refine r_istore (y := m3_match) (L' := [some (.ref 12), some (.int a0), some (.int a1), some (.int a2), some (.ref (31 + 2 * (Int32.toNatClampNeg (mI m 18 (Int32.toNatClampNeg a2))))), some (.int 0), some (.ref q64), some (.int a0), none]) dX3_match_62 (Nat.le_of_ble_eq_true rfl) rfl ?_
          refine r_aload (y := m3_match) dX3_match_64 rfl ?_
          refine r_ifnull (y := m3_match) dX3_match_66 ?_
          refine r_iload (y := m3_match) dX3_match_69 rfl ?_
          refine r_if_lt (y := m3_match) (tgt := 84) dX3_match_71 (by decide) (fun hc95 => ?_) (fun hc95 => ?_)
          · have h := h.1 hc95
            exact h
          · have h := h.2 hc95
            refine r_iload (y := m3_match) dX3_match_74 rfl ?_
            refine r_aload (y := m3_match) dX3_match_76 rfl ?_
            obtain ⟨n97, hx96, h⟩ := h
            refine g_X3_84 (y := m3_match) rfl dX3_match_78 hx96 ?_
            refine r_icmp_lt (y := m3_match) (tgt := 85) dX3_match_81 (by decide) (fun hc98 => ?_) (fun hc98 => ?_)
            · have h := h.1 hc98
              refine r_aload (y := m3_match) dX3_match_85 rfl ?_
              refine g_X3_199 (y := m3_match) rfl dX3_match_87 hx96 ?_
              refine r_iload (y := m3_match) dX3_match_90 rfl ?_
              obtain ⟨hb99, h⟩ := h
              refine r_iald (y := m3_match) (n := n97) dX3_match_92 (hx96.2 1 (by decide) (by decide)).2 hb99 ?_
              refine r_if_ne (y := m3_match) (tgt := 112) dX3_match_93 (by decide) (fun hc100 => ?_) (fun hc100 => ?_)
              · have h := h.1 hc100
                refine r_aload_n (y := m3_match) dX3_match_112 rfl rfl ?_
                refine g_X3_12 (y := m3_match) rfl dX3_match_113 hm ?_
                refine r_iload_n (y := m3_match) dX3_match_116 rfl rfl ?_
                refine r_callVN (y := m3_match) (As := [(.int a1)]) (b := 13) (ci := 10) dX3_match_117 rfl k10_find lm_X3_123 rfl ⟨by decide, by decide⟩ (so_13 hm) (by decide) rfl (Nat.le_of_ble_eq_true rfl) (C.mono h ?_)
                rintro _ m101 ⟨x103, rfl, hm102, h⟩
                refine ⟨_, rfl, ?_⟩
                refine r_istore (y := m3_match) (L' := [some (.ref 12), some (.int a0), some (.int a1), some (.int a2), some (.ref (31 + 2 * (Int32.toNatClampNeg (mI m 18 (Int32.toNatClampNeg a2))))), some (.int 0), some (.ref q64), some (.int a0), some (.int x103)]) dX3_match_120 (Nat.le_of_ble_eq_true rfl) rfl ?_
                refine r_aload_n (y := m3_match) dX3_match_122 rfl rfl ?_
                refine r_iload (y := m3_match) dX3_match_123 rfl ?_
                refine r_callV (y := m3_match) (As := [(.int x103)]) (b := 12) (ci := 3) dX3_match_125 rfl k3_isForced lm_X3_237 rfl ⟨by decide, by decide⟩ (so_12 hm102) (by decide) rfl (Nat.le_of_ble_eq_true rfl) (C.mono h ?_)
                rintro _ m104 ⟨x106, rfl, hm105, h⟩
                refine ⟨_, rfl, ?_⟩
                refine r_if_ne (y := m3_match) (tgt := 155) dX3_match_128 (by decide) (fun hc107 => ?_) (fun hc107 => ?_)
                · have h := h.1 hc107
                  refine r_aload_n (y := m3_match) dX3_match_155 rfl rfl ?_
                  refine r_iload (y := m3_match) dX3_match_156 rfl ?_
                  refine r_aload (y := m3_match) dX3_match_158 rfl ?_
                  obtain ⟨hx108, h⟩ := h
                  refine g_X3_202 (y := m3_match) rfl dX3_match_160 hx108 ?_
                  refine r_iload (y := m3_match) dX3_match_163 rfl ?_
                  obtain ⟨hb109, h⟩ := h
                  refine r_iald (y := m3_match) (n := n97) dX3_match_165 (hx108.2 2 (by decide) (by decide)).2 hb109 ?_
                  refine r_iload_n (y := m3_match) dX3_match_166 rfl rfl ?_
                  refine r_callV (y := m3_match) (As := [(.int x103), (.int (mI m104 (q64 + 2) (Int32.toNatClampNeg a0))), (.int a2)]) (b := 12) (ci := 3) dX3_match_167 rfl k3_isKind lm_X3_285 rfl ⟨by decide, by decide⟩ (so_12 hm105) (by decide) rfl (Nat.le_of_ble_eq_true rfl) (C.mono h ?_)
                  rintro _ m110 ⟨x112, rfl, hm111, h⟩
                  refine ⟨_, rfl, ?_⟩
                  refine r_if_eq (y := m3_match) (tgt := 188) dX3_match_170 (by decide) (fun hc113 => ?_) (fun hc113 => ?_)
                  · have h := h.1 hc113
                    exact h
                  · have h := h.2 hc113
                    refine r_aload_n (y := m3_match) dX3_match_173 rfl rfl ?_
                    refine r_aload (y := m3_match) dX3_match_174 rfl ?_
                    refine r_iload (y := m3_match) dX3_match_176 rfl ?_
                    refine r_iload_n (y := m3_match) dX3_match_178 rfl rfl ?_
                    refine r_iload (y := m3_match) dX3_match_179 rfl ?_
                    refine r_isub (y := m3_match) dX3_match_181 ?_
                    refine r_iload (y := m3_match) dX3_match_182 rfl ?_
                    refine r_iload_n (y := m3_match) dX3_match_184 rfl rfl ?_
                    refine r_callV (y := m3_match) (As := [(.ref q64), (.int a0), (.int (a0 - a0)), (.int x103), (.int a2)]) (b := 12) (ci := 3) dX3_match_185 rfl k3_matchParts lm_X3_289 rfl ⟨by decide, by decide⟩ (so_12 hm111) (by decide) rfl (Nat.le_of_ble_eq_true rfl) (C.mono h ?_)
                    rintro _ m114 ⟨rfl, hm115, h⟩
                    refine ⟨none, rfl, ?_⟩
                    exact h
                · have h := h.2 hc107
                  refine r_aload_n (y := m3_match) dX3_match_131 rfl rfl ?_
                  refine g_X3_21 (y := m3_match) rfl dX3_match_132 hm105 ?_
                  refine r_iconst (y := m3_match) (v := 2) dX3_match_135 (by decide) ?_
                  refine r_iload_n (y := m3_match) dX3_match_136 rfl rfl ?_
                  refine r_iload_n (y := m3_match) dX3_match_137 rfl rfl ?_
                  refine r_iload_n (y := m3_match) dX3_match_138 rfl rfl ?_
                  refine r_callVN (y := m3_match) (As := [(.int 2), (.int a0), (.int a1), (.int a2)]) (b := 23) (ci := 9) dX3_match_139 rfl k9_push lm_X3_186 rfl ⟨by decide, by decide⟩ (so_23 hm105) (by decide) rfl (Nat.le_of_ble_eq_true rfl) (C.mono h ?_)
                  rintro _ m116 ⟨rfl, hm117, h⟩
                  refine ⟨none, rfl, ?_⟩
                  refine r_aload_n (y := m3_match) dX3_match_142 rfl rfl ?_
                  refine g_X3_21 (y := m3_match) rfl dX3_match_143 hm117 ?_
                  refine r_iconst (y := m3_match) (v := 0) dX3_match_146 (by decide) ?_
                  refine r_iload (y := m3_match) dX3_match_147 rfl ?_
                  refine r_callVN (y := m3_match) (As := [(.int 0), (.int x103)]) (b := 23) (ci := 9) dX3_match_149 rfl k9_push_ lm_X3_93 rfl ⟨by decide, by decide⟩ (so_23 hm117) (by decide) rfl (Nat.le_of_ble_eq_true rfl) (C.mono h ?_)
                  rintro _ m118 ⟨rfl, hm119, h⟩
                  refine ⟨none, rfl, ?_⟩
                  refine r_goto (y := m3_match) (tgt := 188) dX3_match_152 (by decide) ?_
                  exact h
              · have h := h.2 hc100
                refine r_aload (y := m3_match) dX3_match_96 rfl ?_
                refine g_X3_192 (y := m3_match) (i := (Int32.toNatClampNeg (mI m 18 (Int32.toNatClampNeg a2)))) rfl dX3_match_98 hm hl3 ?_
                refine r_aload (y := m3_match) dX3_match_101 rfl ?_
                refine g_X3_202 (y := m3_match) rfl dX3_match_103 hx96 ?_
                refine r_iload (y := m3_match) dX3_match_106 rfl ?_
                obtain ⟨hb120, h⟩ := h
                refine r_iald (y := m3_match) (n := n97) dX3_match_108 (hx96.2 2 (by decide) (by decide)).2 hb120 ?_
                refine r_iload_n (y := m3_match) dX3_match_109 rfl rfl ?_
                obtain ⟨hb121, h⟩ := h
                refine r_iast (y := m3_match) (n := 6) dX3_match_110 (sa_st hm hl3) hb121 ?_
                exact r_ret (y := m3_match) dX3_match_111 rfl h
            · have h := h.2 hc98
              exact h
  · have h := h.2 hc4
    refine r_iconst (y := m3_match) (v := 1) dX3_match_22 (by decide) ?_
    refine r_goto (y := m3_match) (tgt := 27) dX3_match_23 (by decide) ?_
    refine r_istore (y := m3_match) (L' := [some (.ref 12), some (.int a0), some (.int a1), some (.int a2), some (.ref (31 + 2 * (Int32.toNatClampNeg (mI m 18 (Int32.toNatClampNeg a2))))), some (.int 1), none, none, none]) dX3_match_27 (Nat.le_of_ble_eq_true rfl) rfl ?_
    refine r_iload (y := m3_match) dX3_match_29 rfl ?_
    refine r_if_eq (y := m3_match) (tgt := 42) dX3_match_31 (by decide) (fun hc122 => ?_) (fun hc122 => ?_)
    · have h := h.1 hc122
      refine r_aload (y := m3_match) dX3_match_42 rfl ?_
      rcases hq124 : mR m (31 + 2 * (Int32.toNatClampNeg (mI m 18 (Int32.toNatClampNeg a2)))) 2 with _ | q123
      · have h := h.1 hq124
        refine g_X3_284 (y := m3_match) (i := (Int32.toNatClampNeg (mI m 18 (Int32.toNatClampNeg a2)))) rfl dX3_match_44 hm hl3 (q := none) hq124 ?_
        refine r_astoreN (y := m3_match) (L' := [some (.ref 12), some (.int a0), some (.int a1), some (.int a2), some (.ref (31 + 2 * (Int32.toNatClampNeg (mI m 18 (Int32.toNatClampNeg a2))))), some (.int 1), some .null, none, none]) dX3_match_47 (Nat.le_of_ble_eq_true rfl) rfl ?_
        refine r_iload (y := m3_match) dX3_match_49 rfl ?_
        refine r_if_eq (y := m3_match) (tgt := 58) dX3_match_51 (by decide) (fun hc125 => ?_) (fun hc125 => ?_)
        · have h := h.1 hc125
          refine r_iload_n (y := m3_match) dX3_match_58 rfl rfl ?_
          refine r_bipush (y := m3_match) (v := 12) dX3_match_59 (by decide) ?_
          refine r_isub (y := m3_match) dX3_match_61 ?_
          refine r_istore (y := m3_match) (L' := [some (.ref 12), some (.int a0), some (.int a1), some (.int a2), some (.ref (31 + 2 * (Int32.toNatClampNeg (mI m 18 (Int32.toNatClampNeg a2))))), some (.int 1), some .null, some (.int (a0 - 12)), none]) dX3_match_62 (Nat.le_of_ble_eq_true rfl) rfl ?_
          refine r_aloadN (y := m3_match) dX3_match_64 rfl ?_
          refine r_ifnullN (y := m3_match) (tgt := 84) dX3_match_66 (by decide) ?_
          exact h
        · have h := h.2 hc125
          refine r_iload_n (y := m3_match) dX3_match_54 rfl rfl ?_
          refine r_goto (y := m3_match) (tgt := 62) dX3_match_55 (by decide) ?_
          refine r_istore (y := m3_match) (L' := [some (.ref 12), some (.int a0), some (.int a1), some (.int a2), some (.ref (31 + 2 * (Int32.toNatClampNeg (mI m 18 (Int32.toNatClampNeg a2))))), some (.int 1), some .null, some (.int a0), none]) dX3_match_62 (Nat.le_of_ble_eq_true rfl) rfl ?_
          refine r_aloadN (y := m3_match) dX3_match_64 rfl ?_
          refine r_ifnullN (y := m3_match) (tgt := 84) dX3_match_66 (by decide) ?_
          exact h
      · have h := h.2 q123 hq124
        refine g_X3_284 (y := m3_match) (i := (Int32.toNatClampNeg (mI m 18 (Int32.toNatClampNeg a2)))) rfl dX3_match_44 hm hl3 (q := some q123) hq124 ?_
        refine r_astore (y := m3_match) (L' := [some (.ref 12), some (.int a0), some (.int a1), some (.int a2), some (.ref (31 + 2 * (Int32.toNatClampNeg (mI m 18 (Int32.toNatClampNeg a2))))), some (.int 1), some (.ref q123), none, none]) dX3_match_47 (Nat.le_of_ble_eq_true rfl) rfl ?_
        refine r_iload (y := m3_match) dX3_match_49 rfl ?_
        refine r_if_eq (y := m3_match) (tgt := 58) dX3_match_51 (by decide) (fun hc126 => ?_) (fun hc126 => ?_)
        · have h := h.1 hc126
          refine r_iload_n (y := m3_match) dX3_match_58 rfl rfl ?_
          refine r_bipush (y := m3_match) (v := 12) dX3_match_59 (by decide) ?_
          refine r_isub (y := m3_match) dX3_match_61 ?_
          refine r_istore (y := m3_match) (L' := [some (.ref 12), some (.int a0), some (.int a1), some (.int a2), some (.ref (31 + 2 * (Int32.toNatClampNeg (mI m 18 (Int32.toNatClampNeg a2))))), some (.int 1), some (.ref q123), some (.int (a0 - 12)), none]) dX3_match_62 (Nat.le_of_ble_eq_true rfl) rfl ?_
          refine r_aload (y := m3_match) dX3_match_64 rfl ?_
          refine r_ifnull (y := m3_match) dX3_match_66 ?_
          refine r_iload (y := m3_match) dX3_match_69 rfl ?_
          refine r_if_lt (y := m3_match) (tgt := 84) dX3_match_71 (by decide) (fun hc127 => ?_) (fun hc127 => ?_)
          · have h := h.1 hc127
            exact h
          · have h := h.2 hc127
            refine r_iload (y := m3_match) dX3_match_74 rfl ?_
            refine r_aload (y := m3_match) dX3_match_76 rfl ?_
            obtain ⟨n129, hx128, h⟩ := h
            refine g_X3_84 (y := m3_match) rfl dX3_match_78 hx128 ?_
            refine r_icmp_lt (y := m3_match) (tgt := 85) dX3_match_81 (by decide) (fun hc130 => ?_) (fun hc130 => ?_)
            · have h := h.1 hc130
              refine r_aload (y := m3_match) dX3_match_85 rfl ?_
              refine g_X3_199 (y := m3_match) rfl dX3_match_87 hx128 ?_
              refine r_iload (y := m3_match) dX3_match_90 rfl ?_
              obtain ⟨hb131, h⟩ := h
              refine r_iald (y := m3_match) (n := n129) dX3_match_92 (hx128.2 1 (by decide) (by decide)).2 hb131 ?_
              refine r_if_ne (y := m3_match) (tgt := 112) dX3_match_93 (by decide) (fun hc132 => ?_) (fun hc132 => ?_)
              · have h := h.1 hc132
                refine r_aload_n (y := m3_match) dX3_match_112 rfl rfl ?_
                refine g_X3_12 (y := m3_match) rfl dX3_match_113 hm ?_
                refine r_iload_n (y := m3_match) dX3_match_116 rfl rfl ?_
                refine r_callVN (y := m3_match) (As := [(.int a1)]) (b := 13) (ci := 10) dX3_match_117 rfl k10_find lm_X3_123 rfl ⟨by decide, by decide⟩ (so_13 hm) (by decide) rfl (Nat.le_of_ble_eq_true rfl) (C.mono h ?_)
                rintro _ m133 ⟨x135, rfl, hm134, h⟩
                refine ⟨_, rfl, ?_⟩
                refine r_istore (y := m3_match) (L' := [some (.ref 12), some (.int a0), some (.int a1), some (.int a2), some (.ref (31 + 2 * (Int32.toNatClampNeg (mI m 18 (Int32.toNatClampNeg a2))))), some (.int 1), some (.ref q123), some (.int (a0 - 12)), some (.int x135)]) dX3_match_120 (Nat.le_of_ble_eq_true rfl) rfl ?_
                refine r_aload_n (y := m3_match) dX3_match_122 rfl rfl ?_
                refine r_iload (y := m3_match) dX3_match_123 rfl ?_
                refine r_callV (y := m3_match) (As := [(.int x135)]) (b := 12) (ci := 3) dX3_match_125 rfl k3_isForced lm_X3_237 rfl ⟨by decide, by decide⟩ (so_12 hm134) (by decide) rfl (Nat.le_of_ble_eq_true rfl) (C.mono h ?_)
                rintro _ m136 ⟨x138, rfl, hm137, h⟩
                refine ⟨_, rfl, ?_⟩
                refine r_if_ne (y := m3_match) (tgt := 155) dX3_match_128 (by decide) (fun hc139 => ?_) (fun hc139 => ?_)
                · have h := h.1 hc139
                  refine r_aload_n (y := m3_match) dX3_match_155 rfl rfl ?_
                  refine r_iload (y := m3_match) dX3_match_156 rfl ?_
                  refine r_aload (y := m3_match) dX3_match_158 rfl ?_
                  obtain ⟨hx140, h⟩ := h
                  refine g_X3_202 (y := m3_match) rfl dX3_match_160 hx140 ?_
                  refine r_iload (y := m3_match) dX3_match_163 rfl ?_
                  obtain ⟨hb141, h⟩ := h
                  refine r_iald (y := m3_match) (n := n129) dX3_match_165 (hx140.2 2 (by decide) (by decide)).2 hb141 ?_
                  refine r_iload_n (y := m3_match) dX3_match_166 rfl rfl ?_
                  refine r_callV (y := m3_match) (As := [(.int x135), (.int (mI m136 (q123 + 2) (Int32.toNatClampNeg (a0 - 12)))), (.int a2)]) (b := 12) (ci := 3) dX3_match_167 rfl k3_isKind lm_X3_285 rfl ⟨by decide, by decide⟩ (so_12 hm137) (by decide) rfl (Nat.le_of_ble_eq_true rfl) (C.mono h ?_)
                  rintro _ m142 ⟨x144, rfl, hm143, h⟩
                  refine ⟨_, rfl, ?_⟩
                  refine r_if_eq (y := m3_match) (tgt := 188) dX3_match_170 (by decide) (fun hc145 => ?_) (fun hc145 => ?_)
                  · have h := h.1 hc145
                    exact h
                  · have h := h.2 hc145
                    refine r_aload_n (y := m3_match) dX3_match_173 rfl rfl ?_
                    refine r_aload (y := m3_match) dX3_match_174 rfl ?_
                    refine r_iload (y := m3_match) dX3_match_176 rfl ?_
                    refine r_iload_n (y := m3_match) dX3_match_178 rfl rfl ?_
                    refine r_iload (y := m3_match) dX3_match_179 rfl ?_
                    refine r_isub (y := m3_match) dX3_match_181 ?_
                    refine r_iload (y := m3_match) dX3_match_182 rfl ?_
                    refine r_iload_n (y := m3_match) dX3_match_184 rfl rfl ?_
                    refine r_callV (y := m3_match) (As := [(.ref q123), (.int (a0 - 12)), (.int (a0 - (a0 - 12))), (.int x135), (.int a2)]) (b := 12) (ci := 3) dX3_match_185 rfl k3_matchParts lm_X3_289 rfl ⟨by decide, by decide⟩ (so_12 hm143) (by decide) rfl (Nat.le_of_ble_eq_true rfl) (C.mono h ?_)
                    rintro _ m146 ⟨rfl, hm147, h⟩
                    refine ⟨none, rfl, ?_⟩
                    exact h
                · have h := h.2 hc139
                  refine r_aload_n (y := m3_match) dX3_match_131 rfl rfl ?_
                  refine g_X3_21 (y := m3_match) rfl dX3_match_132 hm137 ?_
                  refine r_iconst (y := m3_match) (v := 2) dX3_match_135 (by decide) ?_
                  refine r_iload_n (y := m3_match) dX3_match_136 rfl rfl ?_
                  refine r_iload_n (y := m3_match) dX3_match_137 rfl rfl ?_
                  refine r_iload_n (y := m3_match) dX3_match_138 rfl rfl ?_
                  refine r_callVN (y := m3_match) (As := [(.int 2), (.int a0), (.int a1), (.int a2)]) (b := 23) (ci := 9) dX3_match_139 rfl k9_push lm_X3_186 rfl ⟨by decide, by decide⟩ (so_23 hm137) (by decide) rfl (Nat.le_of_ble_eq_true rfl) (C.mono h ?_)
                  rintro _ m148 ⟨rfl, hm149, h⟩
                  refine ⟨none, rfl, ?_⟩
                  refine r_aload_n (y := m3_match) dX3_match_142 rfl rfl ?_
                  refine g_X3_21 (y := m3_match) rfl dX3_match_143 hm149 ?_
                  refine r_iconst (y := m3_match) (v := 0) dX3_match_146 (by decide) ?_
                  refine r_iload (y := m3_match) dX3_match_147 rfl ?_
                  refine r_callVN (y := m3_match) (As := [(.int 0), (.int x135)]) (b := 23) (ci := 9) dX3_match_149 rfl k9_push_ lm_X3_93 rfl ⟨by decide, by decide⟩ (so_23 hm149) (by decide) rfl (Nat.le_of_ble_eq_true rfl) (C.mono h ?_)
                  rintro _ m150 ⟨rfl, hm151, h⟩
                  refine ⟨none, rfl, ?_⟩
                  refine r_goto (y := m3_match) (tgt := 188) dX3_match_152 (by decide) ?_
                  exact h
              · have h := h.2 hc132
                refine r_aload (y := m3_match) dX3_match_96 rfl ?_
                refine g_X3_192 (y := m3_match) (i := (Int32.toNatClampNeg (mI m 18 (Int32.toNatClampNeg a2)))) rfl dX3_match_98 hm hl3 ?_
                refine r_aload (y := m3_match) dX3_match_101 rfl ?_
                refine g_X3_202 (y := m3_match) rfl dX3_match_103 hx128 ?_
                refine r_iload (y := m3_match) dX3_match_106 rfl ?_
                obtain ⟨hb152, h⟩ := h
                refine r_iald (y := m3_match) (n := n129) dX3_match_108 (hx128.2 2 (by decide) (by decide)).2 hb152 ?_
                refine r_iload_n (y := m3_match) dX3_match_109 rfl rfl ?_
                obtain ⟨hb153, h⟩ := h
                refine r_iast (y := m3_match) (n := 6) dX3_match_110 (sa_st hm hl3) hb153 ?_
                exact r_ret (y := m3_match) dX3_match_111 rfl h
            · have h := h.2 hc130
              exact h
        · have h := h.2 hc126
          refine r_iload_n (y := m3_match) dX3_match_54 rfl rfl ?_
          refine r_goto (y := m3_match) (tgt := 62) dX3_match_55 (by decide) ?_
          refine r_istore (y := m3_match) (L' := [some (.ref 12), some (.int a0), some (.int a1), some (.int a2), some (.ref (31 + 2 * (Int32.toNatClampNeg (mI m 18 (Int32.toNatClampNeg a2))))), some (.int 1), some (.ref q123), some (.int a0), none]) dX3_match_62 (Nat.le_of_ble_eq_true rfl) rfl ?_
          refine r_aload (y := m3_match) dX3_match_64 rfl ?_
          refine r_ifnull (y := m3_match) dX3_match_66 ?_
          refine r_iload (y := m3_match) dX3_match_69 rfl ?_
          refine r_if_lt (y := m3_match) (tgt := 84) dX3_match_71 (by decide) (fun hc154 => ?_) (fun hc154 => ?_)
          · have h := h.1 hc154
            exact h
          · have h := h.2 hc154
            refine r_iload (y := m3_match) dX3_match_74 rfl ?_
            refine r_aload (y := m3_match) dX3_match_76 rfl ?_
            obtain ⟨n156, hx155, h⟩ := h
            refine g_X3_84 (y := m3_match) rfl dX3_match_78 hx155 ?_
            refine r_icmp_lt (y := m3_match) (tgt := 85) dX3_match_81 (by decide) (fun hc157 => ?_) (fun hc157 => ?_)
            · have h := h.1 hc157
              refine r_aload (y := m3_match) dX3_match_85 rfl ?_
              refine g_X3_199 (y := m3_match) rfl dX3_match_87 hx155 ?_
              refine r_iload (y := m3_match) dX3_match_90 rfl ?_
              obtain ⟨hb158, h⟩ := h
              refine r_iald (y := m3_match) (n := n156) dX3_match_92 (hx155.2 1 (by decide) (by decide)).2 hb158 ?_
              refine r_if_ne (y := m3_match) (tgt := 112) dX3_match_93 (by decide) (fun hc159 => ?_) (fun hc159 => ?_)
              · have h := h.1 hc159
                refine r_aload_n (y := m3_match) dX3_match_112 rfl rfl ?_
                refine g_X3_12 (y := m3_match) rfl dX3_match_113 hm ?_
                refine r_iload_n (y := m3_match) dX3_match_116 rfl rfl ?_
                refine r_callVN (y := m3_match) (As := [(.int a1)]) (b := 13) (ci := 10) dX3_match_117 rfl k10_find lm_X3_123 rfl ⟨by decide, by decide⟩ (so_13 hm) (by decide) rfl (Nat.le_of_ble_eq_true rfl) (C.mono h ?_)
                rintro _ m160 ⟨x162, rfl, hm161, h⟩
                refine ⟨_, rfl, ?_⟩
                refine r_istore (y := m3_match) (L' := [some (.ref 12), some (.int a0), some (.int a1), some (.int a2), some (.ref (31 + 2 * (Int32.toNatClampNeg (mI m 18 (Int32.toNatClampNeg a2))))), some (.int 1), some (.ref q123), some (.int a0), some (.int x162)]) dX3_match_120 (Nat.le_of_ble_eq_true rfl) rfl ?_
                refine r_aload_n (y := m3_match) dX3_match_122 rfl rfl ?_
                refine r_iload (y := m3_match) dX3_match_123 rfl ?_
                refine r_callV (y := m3_match) (As := [(.int x162)]) (b := 12) (ci := 3) dX3_match_125 rfl k3_isForced lm_X3_237 rfl ⟨by decide, by decide⟩ (so_12 hm161) (by decide) rfl (Nat.le_of_ble_eq_true rfl) (C.mono h ?_)
                rintro _ m163 ⟨x165, rfl, hm164, h⟩
                refine ⟨_, rfl, ?_⟩
                refine r_if_ne (y := m3_match) (tgt := 155) dX3_match_128 (by decide) (fun hc166 => ?_) (fun hc166 => ?_)
                · have h := h.1 hc166
                  refine r_aload_n (y := m3_match) dX3_match_155 rfl rfl ?_
                  refine r_iload (y := m3_match) dX3_match_156 rfl ?_
                  refine r_aload (y := m3_match) dX3_match_158 rfl ?_
                  obtain ⟨hx167, h⟩ := h
                  refine g_X3_202 (y := m3_match) rfl dX3_match_160 hx167 ?_
                  refine r_iload (y := m3_match) dX3_match_163 rfl ?_
                  obtain ⟨hb168, h⟩ := h
                  refine r_iald (y := m3_match) (n := n156) dX3_match_165 (hx167.2 2 (by decide) (by decide)).2 hb168 ?_
                  refine r_iload_n (y := m3_match) dX3_match_166 rfl rfl ?_
                  refine r_callV (y := m3_match) (As := [(.int x162), (.int (mI m163 (q123 + 2) (Int32.toNatClampNeg a0))), (.int a2)]) (b := 12) (ci := 3) dX3_match_167 rfl k3_isKind lm_X3_285 rfl ⟨by decide, by decide⟩ (so_12 hm164) (by decide) rfl (Nat.le_of_ble_eq_true rfl) (C.mono h ?_)
                  rintro _ m169 ⟨x171, rfl, hm170, h⟩
                  refine ⟨_, rfl, ?_⟩
                  refine r_if_eq (y := m3_match) (tgt := 188) dX3_match_170 (by decide) (fun hc172 => ?_) (fun hc172 => ?_)
                  · have h := h.1 hc172
                    exact h
                  · have h := h.2 hc172
                    refine r_aload_n (y := m3_match) dX3_match_173 rfl rfl ?_
                    refine r_aload (y := m3_match) dX3_match_174 rfl ?_
                    refine r_iload (y := m3_match) dX3_match_176 rfl ?_
                    refine r_iload_n (y := m3_match) dX3_match_178 rfl rfl ?_
                    refine r_iload (y := m3_match) dX3_match_179 rfl ?_
                    refine r_isub (y := m3_match) dX3_match_181 ?_
                    refine r_iload (y := m3_match) dX3_match_182 rfl ?_
                    refine r_iload_n (y := m3_match) dX3_match_184 rfl rfl ?_
                    refine r_callV (y := m3_match) (As := [(.ref q123), (.int a0), (.int (a0 - a0)), (.int x162), (.int a2)]) (b := 12) (ci := 3) dX3_match_185 rfl k3_matchParts lm_X3_289 rfl ⟨by decide, by decide⟩ (so_12 hm170) (by decide) rfl (Nat.le_of_ble_eq_true rfl) (C.mono h ?_)
                    rintro _ m173 ⟨rfl, hm174, h⟩
                    refine ⟨none, rfl, ?_⟩
                    exact h
                · have h := h.2 hc166
                  refine r_aload_n (y := m3_match) dX3_match_131 rfl rfl ?_
                  refine g_X3_21 (y := m3_match) rfl dX3_match_132 hm164 ?_
                  refine r_iconst (y := m3_match) (v := 2) dX3_match_135 (by decide) ?_
                  refine r_iload_n (y := m3_match) dX3_match_136 rfl rfl ?_
                  refine r_iload_n (y := m3_match) dX3_match_137 rfl rfl ?_
                  refine r_iload_n (y := m3_match) dX3_match_138 rfl rfl ?_
                  refine r_callVN (y := m3_match) (As := [(.int 2), (.int a0), (.int a1), (.int a2)]) (b := 23) (ci := 9) dX3_match_139 rfl k9_push lm_X3_186 rfl ⟨by decide, by decide⟩ (so_23 hm164) (by decide) rfl (Nat.le_of_ble_eq_true rfl) (C.mono h ?_)
                  rintro _ m175 ⟨rfl, hm176, h⟩
                  refine ⟨none, rfl, ?_⟩
                  refine r_aload_n (y := m3_match) dX3_match_142 rfl rfl ?_
                  refine g_X3_21 (y := m3_match) rfl dX3_match_143 hm176 ?_
                  refine r_iconst (y := m3_match) (v := 0) dX3_match_146 (by decide) ?_
                  refine r_iload (y := m3_match) dX3_match_147 rfl ?_
                  refine r_callVN (y := m3_match) (As := [(.int 0), (.int x162)]) (b := 23) (ci := 9) dX3_match_149 rfl k9_push_ lm_X3_93 rfl ⟨by decide, by decide⟩ (so_23 hm176) (by decide) rfl (Nat.le_of_ble_eq_true rfl) (C.mono h ?_)
                  rintro _ m177 ⟨rfl, hm178, h⟩
                  refine ⟨none, rfl, ?_⟩
                  refine r_goto (y := m3_match) (tgt := 188) dX3_match_152 (by decide) ?_
                  exact h
              · have h := h.2 hc159
                refine r_aload (y := m3_match) dX3_match_96 rfl ?_
                refine g_X3_192 (y := m3_match) (i := (Int32.toNatClampNeg (mI m 18 (Int32.toNatClampNeg a2)))) rfl dX3_match_98 hm hl3 ?_
                refine r_aload (y := m3_match) dX3_match_101 rfl ?_
                refine g_X3_202 (y := m3_match) rfl dX3_match_103 hx155 ?_
                refine r_iload (y := m3_match) dX3_match_106 rfl ?_
                obtain ⟨hb179, h⟩ := h
                refine r_iald (y := m3_match) (n := n156) dX3_match_108 (hx155.2 2 (by decide) (by decide)).2 hb179 ?_
                refine r_iload_n (y := m3_match) dX3_match_109 rfl rfl ?_
                obtain ⟨hb180, h⟩ := h
                refine r_iast (y := m3_match) (n := 6) dX3_match_110 (sa_st hm hl3) hb180 ?_
                exact r_ret (y := m3_match) dX3_match_111 rfl h
            · have h := h.2 hc157
              exact h
    · have h := h.2 hc122
      refine r_aload (y := m3_match) dX3_match_34 rfl ?_
      rcases hq182 : mR m (31 + 2 * (Int32.toNatClampNeg (mI m 18 (Int32.toNatClampNeg a2)))) 1 with _ | q181
      · have h := h.1 hq182
        refine g_X3_283 (y := m3_match) (i := (Int32.toNatClampNeg (mI m 18 (Int32.toNatClampNeg a2)))) rfl dX3_match_36 hm hl3 (q := none) hq182 ?_
        refine r_goto (y := m3_match) (tgt := 47) dX3_match_39 (by decide) ?_
        refine r_astoreN (y := m3_match) (L' := [some (.ref 12), some (.int a0), some (.int a1), some (.int a2), some (.ref (31 + 2 * (Int32.toNatClampNeg (mI m 18 (Int32.toNatClampNeg a2))))), some (.int 1), some .null, none, none]) dX3_match_47 (Nat.le_of_ble_eq_true rfl) rfl ?_
        refine r_iload (y := m3_match) dX3_match_49 rfl ?_
        refine r_if_eq (y := m3_match) (tgt := 58) dX3_match_51 (by decide) (fun hc183 => ?_) (fun hc183 => ?_)
        · have h := h.1 hc183
          refine r_iload_n (y := m3_match) dX3_match_58 rfl rfl ?_
          refine r_bipush (y := m3_match) (v := 12) dX3_match_59 (by decide) ?_
          refine r_isub (y := m3_match) dX3_match_61 ?_
          refine r_istore (y := m3_match) (L' := [some (.ref 12), some (.int a0), some (.int a1), some (.int a2), some (.ref (31 + 2 * (Int32.toNatClampNeg (mI m 18 (Int32.toNatClampNeg a2))))), some (.int 1), some .null, some (.int (a0 - 12)), none]) dX3_match_62 (Nat.le_of_ble_eq_true rfl) rfl ?_
          refine r_aloadN (y := m3_match) dX3_match_64 rfl ?_
          refine r_ifnullN (y := m3_match) (tgt := 84) dX3_match_66 (by decide) ?_
          exact h
        · have h := h.2 hc183
          refine r_iload_n (y := m3_match) dX3_match_54 rfl rfl ?_
          refine r_goto (y := m3_match) (tgt := 62) dX3_match_55 (by decide) ?_
          refine r_istore (y := m3_match) (L' := [some (.ref 12), some (.int a0), some (.int a1), some (.int a2), some (.ref (31 + 2 * (Int32.toNatClampNeg (mI m 18 (Int32.toNatClampNeg a2))))), some (.int 1), some .null, some (.int a0), none]) dX3_match_62 (Nat.le_of_ble_eq_true rfl) rfl ?_
          refine r_aloadN (y := m3_match) dX3_match_64 rfl ?_
          refine r_ifnullN (y := m3_match) (tgt := 84) dX3_match_66 (by decide) ?_
          exact h
      · have h := h.2 q181 hq182
        refine g_X3_283 (y := m3_match) (i := (Int32.toNatClampNeg (mI m 18 (Int32.toNatClampNeg a2)))) rfl dX3_match_36 hm hl3 (q := some q181) hq182 ?_
        refine r_goto (y := m3_match) (tgt := 47) dX3_match_39 (by decide) ?_
        refine r_astore (y := m3_match) (L' := [some (.ref 12), some (.int a0), some (.int a1), some (.int a2), some (.ref (31 + 2 * (Int32.toNatClampNeg (mI m 18 (Int32.toNatClampNeg a2))))), some (.int 1), some (.ref q181), none, none]) dX3_match_47 (Nat.le_of_ble_eq_true rfl) rfl ?_
        refine r_iload (y := m3_match) dX3_match_49 rfl ?_
        refine r_if_eq (y := m3_match) (tgt := 58) dX3_match_51 (by decide) (fun hc184 => ?_) (fun hc184 => ?_)
        · have h := h.1 hc184
          refine r_iload_n (y := m3_match) dX3_match_58 rfl rfl ?_
          refine r_bipush (y := m3_match) (v := 12) dX3_match_59 (by decide) ?_
          refine r_isub (y := m3_match) dX3_match_61 ?_
          refine r_istore (y := m3_match) (L' := [some (.ref 12), some (.int a0), some (.int a1), some (.int a2), some (.ref (31 + 2 * (Int32.toNatClampNeg (mI m 18 (Int32.toNatClampNeg a2))))), some (.int 1), some (.ref q181), some (.int (a0 - 12)), none]) dX3_match_62 (Nat.le_of_ble_eq_true rfl) rfl ?_
          refine r_aload (y := m3_match) dX3_match_64 rfl ?_
          refine r_ifnull (y := m3_match) dX3_match_66 ?_
          refine r_iload (y := m3_match) dX3_match_69 rfl ?_
          refine r_if_lt (y := m3_match) (tgt := 84) dX3_match_71 (by decide) (fun hc185 => ?_) (fun hc185 => ?_)
          · have h := h.1 hc185
            exact h
          · have h := h.2 hc185
            refine r_iload (y := m3_match) dX3_match_74 rfl ?_
            refine r_aload (y := m3_match) dX3_match_76 rfl ?_
            obtain ⟨n187, hx186, h⟩ := h
            refine g_X3_84 (y := m3_match) rfl dX3_match_78 hx186 ?_
            refine r_icmp_lt (y := m3_match) (tgt := 85) dX3_match_81 (by decide) (fun hc188 => ?_) (fun hc188 => ?_)
            · have h := h.1 hc188
              refine r_aload (y := m3_match) dX3_match_85 rfl ?_
              refine g_X3_199 (y := m3_match) rfl dX3_match_87 hx186 ?_
              refine r_iload (y := m3_match) dX3_match_90 rfl ?_
              obtain ⟨hb189, h⟩ := h
              refine r_iald (y := m3_match) (n := n187) dX3_match_92 (hx186.2 1 (by decide) (by decide)).2 hb189 ?_
              refine r_if_ne (y := m3_match) (tgt := 112) dX3_match_93 (by decide) (fun hc190 => ?_) (fun hc190 => ?_)
              · have h := h.1 hc190
                refine r_aload_n (y := m3_match) dX3_match_112 rfl rfl ?_
                refine g_X3_12 (y := m3_match) rfl dX3_match_113 hm ?_
                refine r_iload_n (y := m3_match) dX3_match_116 rfl rfl ?_
                refine r_callVN (y := m3_match) (As := [(.int a1)]) (b := 13) (ci := 10) dX3_match_117 rfl k10_find lm_X3_123 rfl ⟨by decide, by decide⟩ (so_13 hm) (by decide) rfl (Nat.le_of_ble_eq_true rfl) (C.mono h ?_)
                rintro _ m191 ⟨x193, rfl, hm192, h⟩
                refine ⟨_, rfl, ?_⟩
                refine r_istore (y := m3_match) (L' := [some (.ref 12), some (.int a0), some (.int a1), some (.int a2), some (.ref (31 + 2 * (Int32.toNatClampNeg (mI m 18 (Int32.toNatClampNeg a2))))), some (.int 1), some (.ref q181), some (.int (a0 - 12)), some (.int x193)]) dX3_match_120 (Nat.le_of_ble_eq_true rfl) rfl ?_
                refine r_aload_n (y := m3_match) dX3_match_122 rfl rfl ?_
                refine r_iload (y := m3_match) dX3_match_123 rfl ?_
                refine r_callV (y := m3_match) (As := [(.int x193)]) (b := 12) (ci := 3) dX3_match_125 rfl k3_isForced lm_X3_237 rfl ⟨by decide, by decide⟩ (so_12 hm192) (by decide) rfl (Nat.le_of_ble_eq_true rfl) (C.mono h ?_)
                rintro _ m194 ⟨x196, rfl, hm195, h⟩
                refine ⟨_, rfl, ?_⟩
                refine r_if_ne (y := m3_match) (tgt := 155) dX3_match_128 (by decide) (fun hc197 => ?_) (fun hc197 => ?_)
                · have h := h.1 hc197
                  refine r_aload_n (y := m3_match) dX3_match_155 rfl rfl ?_
                  refine r_iload (y := m3_match) dX3_match_156 rfl ?_
                  refine r_aload (y := m3_match) dX3_match_158 rfl ?_
                  obtain ⟨hx198, h⟩ := h
                  refine g_X3_202 (y := m3_match) rfl dX3_match_160 hx198 ?_
                  refine r_iload (y := m3_match) dX3_match_163 rfl ?_
                  obtain ⟨hb199, h⟩ := h
                  refine r_iald (y := m3_match) (n := n187) dX3_match_165 (hx198.2 2 (by decide) (by decide)).2 hb199 ?_
                  refine r_iload_n (y := m3_match) dX3_match_166 rfl rfl ?_
                  refine r_callV (y := m3_match) (As := [(.int x193), (.int (mI m194 (q181 + 2) (Int32.toNatClampNeg (a0 - 12)))), (.int a2)]) (b := 12) (ci := 3) dX3_match_167 rfl k3_isKind lm_X3_285 rfl ⟨by decide, by decide⟩ (so_12 hm195) (by decide) rfl (Nat.le_of_ble_eq_true rfl) (C.mono h ?_)
                  rintro _ m200 ⟨x202, rfl, hm201, h⟩
                  refine ⟨_, rfl, ?_⟩
                  refine r_if_eq (y := m3_match) (tgt := 188) dX3_match_170 (by decide) (fun hc203 => ?_) (fun hc203 => ?_)
                  · have h := h.1 hc203
                    exact h
                  · have h := h.2 hc203
                    refine r_aload_n (y := m3_match) dX3_match_173 rfl rfl ?_
                    refine r_aload (y := m3_match) dX3_match_174 rfl ?_
                    refine r_iload (y := m3_match) dX3_match_176 rfl ?_
                    refine r_iload_n (y := m3_match) dX3_match_178 rfl rfl ?_
                    refine r_iload (y := m3_match) dX3_match_179 rfl ?_
                    refine r_isub (y := m3_match) dX3_match_181 ?_
                    refine r_iload (y := m3_match) dX3_match_182 rfl ?_
                    refine r_iload_n (y := m3_match) dX3_match_184 rfl rfl ?_
                    refine r_callV (y := m3_match) (As := [(.ref q181), (.int (a0 - 12)), (.int (a0 - (a0 - 12))), (.int x193), (.int a2)]) (b := 12) (ci := 3) dX3_match_185 rfl k3_matchParts lm_X3_289 rfl ⟨by decide, by decide⟩ (so_12 hm201) (by decide) rfl (Nat.le_of_ble_eq_true rfl) (C.mono h ?_)
                    rintro _ m204 ⟨rfl, hm205, h⟩
                    refine ⟨none, rfl, ?_⟩
                    exact h
                · have h := h.2 hc197
                  refine r_aload_n (y := m3_match) dX3_match_131 rfl rfl ?_
                  refine g_X3_21 (y := m3_match) rfl dX3_match_132 hm195 ?_
                  refine r_iconst (y := m3_match) (v := 2) dX3_match_135 (by decide) ?_
                  refine r_iload_n (y := m3_match) dX3_match_136 rfl rfl ?_
                  refine r_iload_n (y := m3_match) dX3_match_137 rfl rfl ?_
                  refine r_iload_n (y := m3_match) dX3_match_138 rfl rfl ?_
                  refine r_callVN (y := m3_match) (As := [(.int 2), (.int a0), (.int a1), (.int a2)]) (b := 23) (ci := 9) dX3_match_139 rfl k9_push lm_X3_186 rfl ⟨by decide, by decide⟩ (so_23 hm195) (by decide) rfl (Nat.le_of_ble_eq_true rfl) (C.mono h ?_)
                  rintro _ m206 ⟨rfl, hm207, h⟩
                  refine ⟨none, rfl, ?_⟩
                  refine r_aload_n (y := m3_match) dX3_match_142 rfl rfl ?_
                  refine g_X3_21 (y := m3_match) rfl dX3_match_143 hm207 ?_
                  refine r_iconst (y := m3_match) (v := 0) dX3_match_146 (by decide) ?_
                  refine r_iload (y := m3_match) dX3_match_147 rfl ?_
                  refine r_callVN (y := m3_match) (As := [(.int 0), (.int x193)]) (b := 23) (ci := 9) dX3_match_149 rfl k9_push_ lm_X3_93 rfl ⟨by decide, by decide⟩ (so_23 hm207) (by decide) rfl (Nat.le_of_ble_eq_true rfl) (C.mono h ?_)
                  rintro _ m208 ⟨rfl, hm209, h⟩
                  refine ⟨none, rfl, ?_⟩
                  refine r_goto (y := m3_match) (tgt := 188) dX3_match_152 (by decide) ?_
                  exact h
              · have h := h.2 hc190
                refine r_aload (y := m3_match) dX3_match_96 rfl ?_
                refine g_X3_192 (y := m3_match) (i := (Int32.toNatClampNeg (mI m 18 (Int32.toNatClampNeg a2)))) rfl dX3_match_98 hm hl3 ?_
                refine r_aload (y := m3_match) dX3_match_101 rfl ?_
                refine g_X3_202 (y := m3_match) rfl dX3_match_103 hx186 ?_
                refine r_iload (y := m3_match) dX3_match_106 rfl ?_
                obtain ⟨hb210, h⟩ := h
                refine r_iald (y := m3_match) (n := n187) dX3_match_108 (hx186.2 2 (by decide) (by decide)).2 hb210 ?_
                refine r_iload_n (y := m3_match) dX3_match_109 rfl rfl ?_
                obtain ⟨hb211, h⟩ := h
                refine r_iast (y := m3_match) (n := 6) dX3_match_110 (sa_st hm hl3) hb211 ?_
                exact r_ret (y := m3_match) dX3_match_111 rfl h
            · have h := h.2 hc188
              exact h
        · have h := h.2 hc184
          refine r_iload_n (y := m3_match) dX3_match_54 rfl rfl ?_
          refine r_goto (y := m3_match) (tgt := 62) dX3_match_55 (by decide) ?_
          refine r_istore (y := m3_match) (L' := [some (.ref 12), some (.int a0), some (.int a1), some (.int a2), some (.ref (31 + 2 * (Int32.toNatClampNeg (mI m 18 (Int32.toNatClampNeg a2))))), some (.int 1), some (.ref q181), some (.int a0), none]) dX3_match_62 (Nat.le_of_ble_eq_true rfl) rfl ?_
          refine r_aload (y := m3_match) dX3_match_64 rfl ?_
          refine r_ifnull (y := m3_match) dX3_match_66 ?_
          refine r_iload (y := m3_match) dX3_match_69 rfl ?_
          refine r_if_lt (y := m3_match) (tgt := 84) dX3_match_71 (by decide) (fun hc212 => ?_) (fun hc212 => ?_)
          · have h := h.1 hc212
            exact h
          · have h := h.2 hc212
            refine r_iload (y := m3_match) dX3_match_74 rfl ?_
            refine r_aload (y := m3_match) dX3_match_76 rfl ?_
            obtain ⟨n214, hx213, h⟩ := h
            refine g_X3_84 (y := m3_match) rfl dX3_match_78 hx213 ?_
            refine r_icmp_lt (y := m3_match) (tgt := 85) dX3_match_81 (by decide) (fun hc215 => ?_) (fun hc215 => ?_)
            · have h := h.1 hc215
              refine r_aload (y := m3_match) dX3_match_85 rfl ?_
              refine g_X3_199 (y := m3_match) rfl dX3_match_87 hx213 ?_
              refine r_iload (y := m3_match) dX3_match_90 rfl ?_
              obtain ⟨hb216, h⟩ := h
              refine r_iald (y := m3_match) (n := n214) dX3_match_92 (hx213.2 1 (by decide) (by decide)).2 hb216 ?_
              refine r_if_ne (y := m3_match) (tgt := 112) dX3_match_93 (by decide) (fun hc217 => ?_) (fun hc217 => ?_)
              · have h := h.1 hc217
                refine r_aload_n (y := m3_match) dX3_match_112 rfl rfl ?_
                refine g_X3_12 (y := m3_match) rfl dX3_match_113 hm ?_
                refine r_iload_n (y := m3_match) dX3_match_116 rfl rfl ?_
                refine r_callVN (y := m3_match) (As := [(.int a1)]) (b := 13) (ci := 10) dX3_match_117 rfl k10_find lm_X3_123 rfl ⟨by decide, by decide⟩ (so_13 hm) (by decide) rfl (Nat.le_of_ble_eq_true rfl) (C.mono h ?_)
                rintro _ m218 ⟨x220, rfl, hm219, h⟩
                refine ⟨_, rfl, ?_⟩
                refine r_istore (y := m3_match) (L' := [some (.ref 12), some (.int a0), some (.int a1), some (.int a2), some (.ref (31 + 2 * (Int32.toNatClampNeg (mI m 18 (Int32.toNatClampNeg a2))))), some (.int 1), some (.ref q181), some (.int a0), some (.int x220)]) dX3_match_120 (Nat.le_of_ble_eq_true rfl) rfl ?_
                refine r_aload_n (y := m3_match) dX3_match_122 rfl rfl ?_
                refine r_iload (y := m3_match) dX3_match_123 rfl ?_
                refine r_callV (y := m3_match) (As := [(.int x220)]) (b := 12) (ci := 3) dX3_match_125 rfl k3_isForced lm_X3_237 rfl ⟨by decide, by decide⟩ (so_12 hm219) (by decide) rfl (Nat.le_of_ble_eq_true rfl) (C.mono h ?_)
                rintro _ m221 ⟨x223, rfl, hm222, h⟩
                refine ⟨_, rfl, ?_⟩
                refine r_if_ne (y := m3_match) (tgt := 155) dX3_match_128 (by decide) (fun hc224 => ?_) (fun hc224 => ?_)
                · have h := h.1 hc224
                  refine r_aload_n (y := m3_match) dX3_match_155 rfl rfl ?_
                  refine r_iload (y := m3_match) dX3_match_156 rfl ?_
                  refine r_aload (y := m3_match) dX3_match_158 rfl ?_
                  obtain ⟨hx225, h⟩ := h
                  refine g_X3_202 (y := m3_match) rfl dX3_match_160 hx225 ?_
                  refine r_iload (y := m3_match) dX3_match_163 rfl ?_
                  obtain ⟨hb226, h⟩ := h
                  refine r_iald (y := m3_match) (n := n214) dX3_match_165 (hx225.2 2 (by decide) (by decide)).2 hb226 ?_
                  refine r_iload_n (y := m3_match) dX3_match_166 rfl rfl ?_
                  refine r_callV (y := m3_match) (As := [(.int x220), (.int (mI m221 (q181 + 2) (Int32.toNatClampNeg a0))), (.int a2)]) (b := 12) (ci := 3) dX3_match_167 rfl k3_isKind lm_X3_285 rfl ⟨by decide, by decide⟩ (so_12 hm222) (by decide) rfl (Nat.le_of_ble_eq_true rfl) (C.mono h ?_)
                  rintro _ m227 ⟨x229, rfl, hm228, h⟩
                  refine ⟨_, rfl, ?_⟩
                  refine r_if_eq (y := m3_match) (tgt := 188) dX3_match_170 (by decide) (fun hc230 => ?_) (fun hc230 => ?_)
                  · have h := h.1 hc230
                    exact h
                  · have h := h.2 hc230
                    refine r_aload_n (y := m3_match) dX3_match_173 rfl rfl ?_
                    refine r_aload (y := m3_match) dX3_match_174 rfl ?_
                    refine r_iload (y := m3_match) dX3_match_176 rfl ?_
                    refine r_iload_n (y := m3_match) dX3_match_178 rfl rfl ?_
                    refine r_iload (y := m3_match) dX3_match_179 rfl ?_
                    refine r_isub (y := m3_match) dX3_match_181 ?_
                    refine r_iload (y := m3_match) dX3_match_182 rfl ?_
                    refine r_iload_n (y := m3_match) dX3_match_184 rfl rfl ?_
                    refine r_callV (y := m3_match) (As := [(.ref q181), (.int a0), (.int (a0 - a0)), (.int x220), (.int a2)]) (b := 12) (ci := 3) dX3_match_185 rfl k3_matchParts lm_X3_289 rfl ⟨by decide, by decide⟩ (so_12 hm228) (by decide) rfl (Nat.le_of_ble_eq_true rfl) (C.mono h ?_)
                    rintro _ m231 ⟨rfl, hm232, h⟩
                    refine ⟨none, rfl, ?_⟩
                    exact h
                · have h := h.2 hc224
                  refine r_aload_n (y := m3_match) dX3_match_131 rfl rfl ?_
                  refine g_X3_21 (y := m3_match) rfl dX3_match_132 hm222 ?_
                  refine r_iconst (y := m3_match) (v := 2) dX3_match_135 (by decide) ?_
                  refine r_iload_n (y := m3_match) dX3_match_136 rfl rfl ?_
                  refine r_iload_n (y := m3_match) dX3_match_137 rfl rfl ?_
                  refine r_iload_n (y := m3_match) dX3_match_138 rfl rfl ?_
                  refine r_callVN (y := m3_match) (As := [(.int 2), (.int a0), (.int a1), (.int a2)]) (b := 23) (ci := 9) dX3_match_139 rfl k9_push lm_X3_186 rfl ⟨by decide, by decide⟩ (so_23 hm222) (by decide) rfl (Nat.le_of_ble_eq_true rfl) (C.mono h ?_)
                  rintro _ m233 ⟨rfl, hm234, h⟩
                  refine ⟨none, rfl, ?_⟩
                  refine r_aload_n (y := m3_match) dX3_match_142 rfl rfl ?_
                  refine g_X3_21 (y := m3_match) rfl dX3_match_143 hm234 ?_
                  refine r_iconst (y := m3_match) (v := 0) dX3_match_146 (by decide) ?_
                  refine r_iload (y := m3_match) dX3_match_147 rfl ?_
                  refine r_callVN (y := m3_match) (As := [(.int 0), (.int x220)]) (b := 23) (ci := 9) dX3_match_149 rfl k9_push_ lm_X3_93 rfl ⟨by decide, by decide⟩ (so_23 hm234) (by decide) rfl (Nat.le_of_ble_eq_true rfl) (C.mono h ?_)
                  rintro _ m235 ⟨rfl, hm236, h⟩
                  refine ⟨none, rfl, ?_⟩
                  refine r_goto (y := m3_match) (tgt := 188) dX3_match_152 (by decide) ?_
                  exact h
              · have h := h.2 hc217
                refine r_aload (y := m3_match) dX3_match_96 rfl ?_
                refine g_X3_192 (y := m3_match) (i := (Int32.toNatClampNeg (mI m 18 (Int32.toNatClampNeg a2)))) rfl dX3_match_98 hm hl3 ?_
                refine r_aload (y := m3_match) dX3_match_101 rfl ?_
                refine g_X3_202 (y := m3_match) rfl dX3_match_103 hx213 ?_
                refine r_iload (y := m3_match) dX3_match_106 rfl ?_
                obtain ⟨hb237, h⟩ := h
                refine r_iald (y := m3_match) (n := n214) dX3_match_108 (hx213.2 2 (by decide) (by decide)).2 hb237 ?_
                refine r_iload_n (y := m3_match) dX3_match_109 rfl rfl ?_
                obtain ⟨hb238, h⟩ := h
                refine r_iast (y := m3_match) (n := 6) dX3_match_110 (sa_st hm hl3) hb238 ?_
                exact r_ret (y := m3_match) dX3_match_111 rfl h
            · have h := h.2 hc215
              exact h
set_option maxHeartbeats 4000000 in
set_option maxRecDepth 100000 in
theorem w3_match_84 {m : Mm} {K : Option Value ⊕ String → Mm → Prop} (hm : St m) {v1 : Int32} {v2 : Int32} {v3 : Int32} {jj4 : Nat} {v5 : Int32} {v7 : Int32} (hjj4 : jj4 < 102) (h : K (.inl none) m) : V m3_match 84 [some (.ref 12), some (.int v1), some (.int v2), some (.int v3), some (.ref (31 + 2 * jj4)), some (.int v5), none, some (.int v7), none] [] m K := by
  exact r_ret (y := m3_match) dX3_match_84 rfl h
set_option maxHeartbeats 4000000 in
set_option maxRecDepth 100000 in
theorem w3_match_188 {m : Mm} {K : Option Value ⊕ String → Mm → Prop} (hm : St m) {v1 : Int32} {v2 : Int32} {v3 : Int32} {jj4 : Nat} {v5 : Int32} {ee6 nn6 : Nat} {v7 : Int32} {v8 : Int32} (hjj4 : jj4 < 102) (hee6 : isExp m ee6 nn6) (h : K (.inl none) m) : V m3_match 188 [some (.ref 12), some (.int v1), some (.int v2), some (.int v3), some (.ref (31 + 2 * jj4)), some (.int v5), some (.ref ee6), some (.int v7), some (.int v8)] [] m K := by
  exact r_ret (y := m3_match) dX3_match_188 rfl h
set_option maxHeartbeats 4000000 in
set_option maxRecDepth 100000 in
theorem w3_isKind {m : Mm} {K : Option Value ⊕ String → Mm → Prop} (hm : St m) {a0 : Int32} {a1 : Int32} {a2 : Int32}  (h : vp_in a2 3500 ∧ vp_in a0 3500 ∧ ((¬ (mI m 14 (Int32.toNatClampNeg a0)) = 1 → vp_in a2 3500 ∧ vp_in (mI m 15 (Int32.toNatClampNeg a2)) 8 ∧ ((¬ (mI m 9 (Int32.toNatClampNeg (mI m 15 (Int32.toNatClampNeg a2)))) = 0 → K (.inl (some (.int 0))) (mSetI m 12 12 2)) ∧ ((mI m 9 (Int32.toNatClampNeg (mI m 15 (Int32.toNatClampNeg a2)))) = 0 → vp_in a0 3500 ∧ (((mI m 19 (Int32.toNatClampNeg a0)) = (mI m 19 (Int32.toNatClampNeg a2)) → C m11_partsOfKind [(.int a1)] m (fun o m9 => ∃ x11 : Int32, o = .inl (some (.int x11)) ∧ St m9 ∧ ((x11 ≤ 0 → ((x11 ≤ 1 → C m10_becomeData [(.ref 13), (.int a0), (.int a1), (.int (-1)), (.int (-1))] m9 (fun o m14 => o = .inl none ∧ St m14 ∧ K (.inl (some (.int 1))) m14)) ∧ (¬ x11 ≤ 1 → C m10_addOpen [(.ref 13), (.int (mI m 19 (Int32.toNatClampNeg a2)))] m9 (fun o m16 => ∃ x18 : Int32, o = .inl (some (.int x18)) ∧ St m16 ∧ C m10_becomeData [(.ref 13), (.int a0), (.int a1), (.int (-1)), (.int x18)] m16 (fun o m19 => o = .inl none ∧ St m19 ∧ K (.inl (some (.int 1))) m19))))) ∧ (¬ x11 ≤ 0 → C m10_addOpen [(.ref 13), (.int (mI m 19 (Int32.toNatClampNeg a2)))] m9 (fun o m21 => ∃ x23 : Int32, o = .inl (some (.int x23)) ∧ St m21 ∧ ((x11 ≤ 1 → C m10_becomeData [(.ref 13), (.int a0), (.int a1), (.int x23), (.int (-1))] m21 (fun o m25 => o = .inl none ∧ St m25 ∧ K (.inl (some (.int 1))) m25)) ∧ (¬ x11 ≤ 1 → C m10_addOpen [(.ref 13), (.int (mI m 19 (Int32.toNatClampNeg a2)))] m21 (fun o m27 => ∃ x29 : Int32, o = .inl (some (.int x29)) ∧ St m27 ∧ C m10_becomeData [(.ref 13), (.int a0), (.int a1), (.int x23), (.int x29)] m27 (fun o m30 => o = .inl none ∧ St m30 ∧ K (.inl (some (.int 1))) m30))))))))) ∧ (¬ (mI m 19 (Int32.toNatClampNeg a0)) = (mI m 19 (Int32.toNatClampNeg a2)) → K (.inl (some (.int 0))) (mSetI m 12 12 2)))))) ∧ ((mI m 14 (Int32.toNatClampNeg a0)) = 1 → vp_in a0 3500 ∧ ((¬ (mI m 15 (Int32.toNatClampNeg a0)) = a1 → C m3_fail [(.ref 12), (.int (mI m 19 (Int32.toNatClampNeg a2)))] m (fun o m34 => o = .inl none ∧ St m34 ∧ K (.inl (some (.int 0))) m34)) ∧ ((mI m 15 (Int32.toNatClampNeg a0)) = a1 → K (.inl (some (.int 1))) m))))) : V m3_isKind 0 [some (.ref 12), some (.int a0), some (.int a1), some (.int a2), none, none, none, none] [] m K := by
  refine r_aload_n (y := m3_isKind) dX3_isKind_0 rfl rfl ?_
  refine g_X3_12 (y := m3_isKind) rfl dX3_isKind_1 hm ?_
  refine g_X3_141 (y := m3_isKind) rfl dX3_isKind_4 hm ?_
  refine r_iload_n (y := m3_isKind) dX3_isKind_7 rfl rfl ?_
  obtain ⟨hb1, h⟩ := h
  refine r_iald (y := m3_isKind) (n := 3500) dX3_isKind_8 (sa_19 hm) hb1 ?_
  refine r_istore (y := m3_isKind) (L' := [some (.ref 12), some (.int a0), some (.int a1), some (.int a2), some (.int (mI m 19 (Int32.toNatClampNeg a2))), none, none, none]) dX3_isKind_9 (Nat.le_of_ble_eq_true rfl) rfl ?_
  refine r_aload_n (y := m3_isKind) dX3_isKind_11 rfl rfl ?_
  refine g_X3_12 (y := m3_isKind) rfl dX3_isKind_12 hm ?_
  refine g_X3_227 (y := m3_isKind) rfl dX3_isKind_15 hm ?_
  refine r_iload_n (y := m3_isKind) dX3_isKind_18 rfl rfl ?_
  obtain ⟨hb2, h⟩ := h
  refine r_iald (y := m3_isKind) (n := 3500) dX3_isKind_19 (sa_14 hm) hb2 ?_
  refine r_iconst (y := m3_isKind) (v := 1) dX3_isKind_20 (by decide) ?_
  refine r_icmp_ne (y := m3_isKind) (tgt := 47) dX3_isKind_21 (by decide) (fun hc3 => ?_) (fun hc3 => ?_)
  · have h := h.1 hc3
    refine r_aload_n (y := m3_isKind) dX3_isKind_47 rfl rfl ?_
    refine g_X3_63 (y := m3_isKind) rfl dX3_isKind_48 hm ?_
    refine g_X3_293 (y := m3_isKind) rfl dX3_isKind_51 hm ?_
    refine r_aload_n (y := m3_isKind) dX3_isKind_54 rfl rfl ?_
    refine g_X3_12 (y := m3_isKind) rfl dX3_isKind_55 hm ?_
    refine g_X3_247 (y := m3_isKind) rfl dX3_isKind_58 hm ?_
    refine r_iload_n (y := m3_isKind) dX3_isKind_61 rfl rfl ?_
    obtain ⟨hb4, h⟩ := h
    refine r_iald (y := m3_isKind) (n := 3500) dX3_isKind_62 (sa_15 hm) hb4 ?_
    obtain ⟨hb5, h⟩ := h
    refine r_zald (y := m3_isKind) (n := 8) dX3_isKind_63 (sa_9 hm) hb5 ?_
    refine r_if_ne (y := m3_isKind) (tgt := 81) dX3_isKind_64 (by decide) (fun hc6 => ?_) (fun hc6 => ?_)
    · have h := h.1 hc6
      refine r_aload_n (y := m3_isKind) dX3_isKind_81 rfl rfl ?_
      refine r_iconst (y := m3_isKind) (v := 2) dX3_isKind_82 (by decide) ?_
      refine p_X3_57 (y := m3_isKind) rfl dX3_isKind_83 hm ?_
      refine r_iconst (y := m3_isKind) (v := 0) dX3_isKind_86 (by decide) ?_
      exact r_iret (y := m3_isKind) (ty := .boolean) dX3_isKind_87 rfl (by decide) h
    · have h := h.2 hc6
      refine r_aload_n (y := m3_isKind) dX3_isKind_67 rfl rfl ?_
      refine g_X3_12 (y := m3_isKind) rfl dX3_isKind_68 hm ?_
      refine g_X3_141 (y := m3_isKind) rfl dX3_isKind_71 hm ?_
      refine r_iload_n (y := m3_isKind) dX3_isKind_74 rfl rfl ?_
      obtain ⟨hb7, h⟩ := h
      refine r_iald (y := m3_isKind) (n := 3500) dX3_isKind_75 (sa_19 hm) hb7 ?_
      refine r_iload (y := m3_isKind) dX3_isKind_76 rfl ?_
      refine r_icmp_eq (y := m3_isKind) (tgt := 88) dX3_isKind_78 (by decide) (fun hc8 => ?_) (fun hc8 => ?_)
      · have h := h.1 hc8
        refine r_iload_n (y := m3_isKind) dX3_isKind_88 rfl rfl ?_
        refine r_callSN (y := m3_isKind) (As := [(.int a1)]) dX3_isKind_89 rfl k11_partsOfKind lm_X3_248 rfl ⟨by decide, by decide⟩ (Nat.le_of_ble_eq_true rfl) (C.mono h ?_)
        rintro _ m9 ⟨x11, rfl, hm10, h⟩
        refine ⟨_, rfl, ?_⟩
        refine r_istore (y := m3_isKind) (L' := [some (.ref 12), some (.int a0), some (.int a1), some (.int a2), some (.int (mI m 19 (Int32.toNatClampNeg a2))), some (.int x11), none, none]) dX3_isKind_92 (Nat.le_of_ble_eq_true rfl) rfl ?_
        refine r_iload (y := m3_isKind) dX3_isKind_94 rfl ?_
        refine r_if_le (y := m3_isKind) (tgt := 111) dX3_isKind_96 (by decide) (fun hc12 => ?_) (fun hc12 => ?_)
        · have h := h.1 hc12
          refine r_iconst (y := m3_isKind) (v := (-1)) dX3_isKind_111 (by decide) ?_
          refine r_istore (y := m3_isKind) (L' := [some (.ref 12), some (.int a0), some (.int a1), some (.int a2), some (.int (mI m 19 (Int32.toNatClampNeg a2))), some (.int x11), some (.int (-1)), none]) dX3_isKind_112 (Nat.le_of_ble_eq_true rfl) rfl ?_
          refine r_iload (y := m3_isKind) dX3_isKind_114 rfl ?_
          refine r_iconst (y := m3_isKind) (v := 1) dX3_isKind_116 (by decide) ?_
          refine r_icmp_le (y := m3_isKind) (tgt := 132) dX3_isKind_117 (by decide) (fun hc13 => ?_) (fun hc13 => ?_)
          · have h := h.1 hc13
            refine r_iconst (y := m3_isKind) (v := (-1)) dX3_isKind_132 (by decide) ?_
            refine r_istore (y := m3_isKind) (L' := [some (.ref 12), some (.int a0), some (.int a1), some (.int a2), some (.int (mI m 19 (Int32.toNatClampNeg a2))), some (.int x11), some (.int (-1)), some (.int (-1))]) dX3_isKind_133 (Nat.le_of_ble_eq_true rfl) rfl ?_
            refine r_aload_n (y := m3_isKind) dX3_isKind_135 rfl rfl ?_
            refine g_X3_12 (y := m3_isKind) rfl dX3_isKind_136 hm10 ?_
            refine r_iload_n (y := m3_isKind) dX3_isKind_139 rfl rfl ?_
            refine r_iload_n (y := m3_isKind) dX3_isKind_140 rfl rfl ?_
            refine r_iload (y := m3_isKind) dX3_isKind_141 rfl ?_
            refine r_iload (y := m3_isKind) dX3_isKind_143 rfl ?_
            refine r_callVN (y := m3_isKind) (As := [(.int a0), (.int a1), (.int (-1)), (.int (-1))]) (b := 13) (ci := 10) dX3_isKind_145 rfl k10_becomeData lm_X3_148 rfl ⟨by decide, by decide⟩ (so_13 hm10) (by decide) rfl (Nat.le_of_ble_eq_true rfl) (C.mono h ?_)
            rintro _ m14 ⟨rfl, hm15, h⟩
            refine ⟨none, rfl, ?_⟩
            refine r_iconst (y := m3_isKind) (v := 1) dX3_isKind_148 (by decide) ?_
            exact r_iret (y := m3_isKind) (ty := .boolean) dX3_isKind_149 rfl (by decide) h
          · have h := h.2 hc13
            refine r_aload_n (y := m3_isKind) dX3_isKind_120 rfl rfl ?_
            refine g_X3_12 (y := m3_isKind) rfl dX3_isKind_121 hm10 ?_
            refine r_iload (y := m3_isKind) dX3_isKind_124 rfl ?_
            refine r_callVN (y := m3_isKind) (As := [(.int (mI m 19 (Int32.toNatClampNeg a2)))]) (b := 13) (ci := 10) dX3_isKind_126 rfl k10_addOpen lm_X3_205 rfl ⟨by decide, by decide⟩ (so_13 hm10) (by decide) rfl (Nat.le_of_ble_eq_true rfl) (C.mono h ?_)
            rintro _ m16 ⟨x18, rfl, hm17, h⟩
            refine ⟨_, rfl, ?_⟩
            refine r_goto (y := m3_isKind) (tgt := 133) dX3_isKind_129 (by decide) ?_
            refine r_istore (y := m3_isKind) (L' := [some (.ref 12), some (.int a0), some (.int a1), some (.int a2), some (.int (mI m 19 (Int32.toNatClampNeg a2))), some (.int x11), some (.int (-1)), some (.int x18)]) dX3_isKind_133 (Nat.le_of_ble_eq_true rfl) rfl ?_
            refine r_aload_n (y := m3_isKind) dX3_isKind_135 rfl rfl ?_
            refine g_X3_12 (y := m3_isKind) rfl dX3_isKind_136 hm17 ?_
            refine r_iload_n (y := m3_isKind) dX3_isKind_139 rfl rfl ?_
            refine r_iload_n (y := m3_isKind) dX3_isKind_140 rfl rfl ?_
            refine r_iload (y := m3_isKind) dX3_isKind_141 rfl ?_
            refine r_iload (y := m3_isKind) dX3_isKind_143 rfl ?_
            refine r_callVN (y := m3_isKind) (As := [(.int a0), (.int a1), (.int (-1)), (.int x18)]) (b := 13) (ci := 10) dX3_isKind_145 rfl k10_becomeData lm_X3_148 rfl ⟨by decide, by decide⟩ (so_13 hm17) (by decide) rfl (Nat.le_of_ble_eq_true rfl) (C.mono h ?_)
            rintro _ m19 ⟨rfl, hm20, h⟩
            refine ⟨none, rfl, ?_⟩
            refine r_iconst (y := m3_isKind) (v := 1) dX3_isKind_148 (by decide) ?_
            exact r_iret (y := m3_isKind) (ty := .boolean) dX3_isKind_149 rfl (by decide) h
        · have h := h.2 hc12
          refine r_aload_n (y := m3_isKind) dX3_isKind_99 rfl rfl ?_
          refine g_X3_12 (y := m3_isKind) rfl dX3_isKind_100 hm10 ?_
          refine r_iload (y := m3_isKind) dX3_isKind_103 rfl ?_
          refine r_callVN (y := m3_isKind) (As := [(.int (mI m 19 (Int32.toNatClampNeg a2)))]) (b := 13) (ci := 10) dX3_isKind_105 rfl k10_addOpen lm_X3_205 rfl ⟨by decide, by decide⟩ (so_13 hm10) (by decide) rfl (Nat.le_of_ble_eq_true rfl) (C.mono h ?_)
          rintro _ m21 ⟨x23, rfl, hm22, h⟩
          refine ⟨_, rfl, ?_⟩
          refine r_goto (y := m3_isKind) (tgt := 112) dX3_isKind_108 (by decide) ?_
          refine r_istore (y := m3_isKind) (L' := [some (.ref 12), some (.int a0), some (.int a1), some (.int a2), some (.int (mI m 19 (Int32.toNatClampNeg a2))), some (.int x11), some (.int x23), none]) dX3_isKind_112 (Nat.le_of_ble_eq_true rfl) rfl ?_
          refine r_iload (y := m3_isKind) dX3_isKind_114 rfl ?_
          refine r_iconst (y := m3_isKind) (v := 1) dX3_isKind_116 (by decide) ?_
          refine r_icmp_le (y := m3_isKind) (tgt := 132) dX3_isKind_117 (by decide) (fun hc24 => ?_) (fun hc24 => ?_)
          · have h := h.1 hc24
            refine r_iconst (y := m3_isKind) (v := (-1)) dX3_isKind_132 (by decide) ?_
            refine r_istore (y := m3_isKind) (L' := [some (.ref 12), some (.int a0), some (.int a1), some (.int a2), some (.int (mI m 19 (Int32.toNatClampNeg a2))), some (.int x11), some (.int x23), some (.int (-1))]) dX3_isKind_133 (Nat.le_of_ble_eq_true rfl) rfl ?_
            refine r_aload_n (y := m3_isKind) dX3_isKind_135 rfl rfl ?_
            refine g_X3_12 (y := m3_isKind) rfl dX3_isKind_136 hm22 ?_
            refine r_iload_n (y := m3_isKind) dX3_isKind_139 rfl rfl ?_
            refine r_iload_n (y := m3_isKind) dX3_isKind_140 rfl rfl ?_
            refine r_iload (y := m3_isKind) dX3_isKind_141 rfl ?_
            refine r_iload (y := m3_isKind) dX3_isKind_143 rfl ?_
            refine r_callVN (y := m3_isKind) (As := [(.int a0), (.int a1), (.int x23), (.int (-1))]) (b := 13) (ci := 10) dX3_isKind_145 rfl k10_becomeData lm_X3_148 rfl ⟨by decide, by decide⟩ (so_13 hm22) (by decide) rfl (Nat.le_of_ble_eq_true rfl) (C.mono h ?_)
            rintro _ m25 ⟨rfl, hm26, h⟩
            refine ⟨none, rfl, ?_⟩
            refine r_iconst (y := m3_isKind) (v := 1) dX3_isKind_148 (by decide) ?_
            exact r_iret (y := m3_isKind) (ty := .boolean) dX3_isKind_149 rfl (by decide) h
          · have h := h.2 hc24
            refine r_aload_n (y := m3_isKind) dX3_isKind_120 rfl rfl ?_
            refine g_X3_12 (y := m3_isKind) rfl dX3_isKind_121 hm22 ?_
            refine r_iload (y := m3_isKind) dX3_isKind_124 rfl ?_
            refine r_callVN (y := m3_isKind) (As := [(.int (mI m 19 (Int32.toNatClampNeg a2)))]) (b := 13) (ci := 10) dX3_isKind_126 rfl k10_addOpen lm_X3_205 rfl ⟨by decide, by decide⟩ (so_13 hm22) (by decide) rfl (Nat.le_of_ble_eq_true rfl) (C.mono h ?_)
            rintro _ m27 ⟨x29, rfl, hm28, h⟩
            refine ⟨_, rfl, ?_⟩
            refine r_goto (y := m3_isKind) (tgt := 133) dX3_isKind_129 (by decide) ?_
            refine r_istore (y := m3_isKind) (L' := [some (.ref 12), some (.int a0), some (.int a1), some (.int a2), some (.int (mI m 19 (Int32.toNatClampNeg a2))), some (.int x11), some (.int x23), some (.int x29)]) dX3_isKind_133 (Nat.le_of_ble_eq_true rfl) rfl ?_
            refine r_aload_n (y := m3_isKind) dX3_isKind_135 rfl rfl ?_
            refine g_X3_12 (y := m3_isKind) rfl dX3_isKind_136 hm28 ?_
            refine r_iload_n (y := m3_isKind) dX3_isKind_139 rfl rfl ?_
            refine r_iload_n (y := m3_isKind) dX3_isKind_140 rfl rfl ?_
            refine r_iload (y := m3_isKind) dX3_isKind_141 rfl ?_
            refine r_iload (y := m3_isKind) dX3_isKind_143 rfl ?_
            refine r_callVN (y := m3_isKind) (As := [(.int a0), (.int a1), (.int x23), (.int x29)]) (b := 13) (ci := 10) dX3_isKind_145 rfl k10_becomeData lm_X3_148 rfl ⟨by decide, by decide⟩ (so_13 hm28) (by decide) rfl (Nat.le_of_ble_eq_true rfl) (C.mono h ?_)
            rintro _ m30 ⟨rfl, hm31, h⟩
            refine ⟨none, rfl, ?_⟩
            refine r_iconst (y := m3_isKind) (v := 1) dX3_isKind_148 (by decide) ?_
            exact r_iret (y := m3_isKind) (ty := .boolean) dX3_isKind_149 rfl (by decide) h
      · have h := h.2 hc8
        refine r_aload_n (y := m3_isKind) dX3_isKind_81 rfl rfl ?_
        refine r_iconst (y := m3_isKind) (v := 2) dX3_isKind_82 (by decide) ?_
        refine p_X3_57 (y := m3_isKind) rfl dX3_isKind_83 hm ?_
        refine r_iconst (y := m3_isKind) (v := 0) dX3_isKind_86 (by decide) ?_
        exact r_iret (y := m3_isKind) (ty := .boolean) dX3_isKind_87 rfl (by decide) h
  · have h := h.2 hc3
    refine r_aload_n (y := m3_isKind) dX3_isKind_24 rfl rfl ?_
    refine g_X3_12 (y := m3_isKind) rfl dX3_isKind_25 hm ?_
    refine g_X3_247 (y := m3_isKind) rfl dX3_isKind_28 hm ?_
    refine r_iload_n (y := m3_isKind) dX3_isKind_31 rfl rfl ?_
    obtain ⟨hb32, h⟩ := h
    refine r_iald (y := m3_isKind) (n := 3500) dX3_isKind_32 (sa_15 hm) hb32 ?_
    refine r_iload_n (y := m3_isKind) dX3_isKind_33 rfl rfl ?_
    refine r_icmp_ne (y := m3_isKind) (tgt := 39) dX3_isKind_34 (by decide) (fun hc33 => ?_) (fun hc33 => ?_)
    · have h := h.1 hc33
      refine r_aload_n (y := m3_isKind) dX3_isKind_39 rfl rfl ?_
      refine r_iload (y := m3_isKind) dX3_isKind_40 rfl ?_
      refine r_callV (y := m3_isKind) (As := [(.int (mI m 19 (Int32.toNatClampNeg a2)))]) (b := 12) (ci := 3) dX3_isKind_42 rfl k3_fail lm_X3_154 rfl ⟨by decide, by decide⟩ (so_12 hm) (by decide) rfl (Nat.le_of_ble_eq_true rfl) (C.mono h ?_)
      rintro _ m34 ⟨rfl, hm35, h⟩
      refine ⟨none, rfl, ?_⟩
      refine r_iconst (y := m3_isKind) (v := 0) dX3_isKind_45 (by decide) ?_
      exact r_iret (y := m3_isKind) (ty := .boolean) dX3_isKind_46 rfl (by decide) h
    · have h := h.2 hc33
      refine r_iconst (y := m3_isKind) (v := 1) dX3_isKind_37 (by decide) ?_
      exact r_iret (y := m3_isKind) (ty := .boolean) dX3_isKind_38 rfl (by decide) h
set_option maxHeartbeats 4000000 in
set_option maxRecDepth 100000 in
theorem w3_matchParts {m : Mm} {K : Option Value ⊕ String → Mm → Prop} (hm : St m) {e0 ne0 : Nat} {a1 : Int32} {a2 : Int32} {a3 : Int32} {a4 : Int32} (he0 : isExp m e0 ne0) (h : vp_in a1 ne0 ∧ (((mI m (e0 + 4) (Int32.toNatClampNeg a1)) < 0 → vp_in a1 ne0 ∧ (((mI m (e0 + 3) (Int32.toNatClampNeg a1)) < 0 → K (.inl none) m) ∧ (¬ (mI m (e0 + 3) (Int32.toNatClampNeg a1)) < 0 → vp_in a1 ne0 ∧ vp_in a3 3500 ∧ C m9_push [(.ref 23), (.int 2), (.int (a2 + (mI m (e0 + 3) (Int32.toNatClampNeg a1)))), (.int (mI m 16 (Int32.toNatClampNeg a3))), (.int a4)] m (fun o m7 => o = .inl none ∧ St m7 ∧ K (.inl none) m7)))) ∧ (¬ (mI m (e0 + 4) (Int32.toNatClampNeg a1)) < 0 → vp_in a1 ne0 ∧ vp_in a3 3500 ∧ C m9_push [(.ref 23), (.int 2), (.int (a2 + (mI m (e0 + 4) (Int32.toNatClampNeg a1)))), (.int (mI m 17 (Int32.toNatClampNeg a3))), (.int a4)] m (fun o m11 => o = .inl none ∧ St m11 ∧ isExp m11 e0 ne0 ∧ vp_in a1 ne0 ∧ (((mI m11 (e0 + 3) (Int32.toNatClampNeg a1)) < 0 → K (.inl none) m11) ∧ (¬ (mI m11 (e0 + 3) (Int32.toNatClampNeg a1)) < 0 → vp_in a1 ne0 ∧ vp_in a3 3500 ∧ C m9_push [(.ref 23), (.int 2), (.int (a2 + (mI m11 (e0 + 3) (Int32.toNatClampNeg a1)))), (.int (mI m11 16 (Int32.toNatClampNeg a3))), (.int a4)] m11 (fun o m18 => o = .inl none ∧ St m18 ∧ K (.inl none) m18))))))) : V m3_matchParts 0 [some (.ref 12), some (.ref e0), some (.int a1), some (.int a2), some (.int a3), some (.int a4)] [] m K := by
  refine r_aload_n (y := m3_matchParts) dX3_matchParts_0 rfl rfl ?_
  refine g_X3_222 (y := m3_matchParts) rfl dX3_matchParts_1 he0 ?_
  refine r_iload_n (y := m3_matchParts) dX3_matchParts_4 rfl rfl ?_
  obtain ⟨hb1, h⟩ := h
  refine r_iald (y := m3_matchParts) (n := ne0) dX3_matchParts_5 (he0.2 4 (by decide) (by decide)).2 hb1 ?_
  refine r_if_lt (y := m3_matchParts) (tgt := 37) dX3_matchParts_6 (by decide) (fun hc2 => ?_) (fun hc2 => ?_)
  · have h := h.1 hc2
    refine r_aload_n (y := m3_matchParts) dX3_matchParts_37 rfl rfl ?_
    refine g_X3_215 (y := m3_matchParts) rfl dX3_matchParts_38 he0 ?_
    refine r_iload_n (y := m3_matchParts) dX3_matchParts_41 rfl rfl ?_
    obtain ⟨hb3, h⟩ := h
    refine r_iald (y := m3_matchParts) (n := ne0) dX3_matchParts_42 (he0.2 3 (by decide) (by decide)).2 hb3 ?_
    refine r_if_lt (y := m3_matchParts) (tgt := 74) dX3_matchParts_43 (by decide) (fun hc4 => ?_) (fun hc4 => ?_)
    · have h := h.1 hc4
      exact r_ret (y := m3_matchParts) dX3_matchParts_74 rfl h
    · have h := h.2 hc4
      refine r_aload_n (y := m3_matchParts) dX3_matchParts_46 rfl rfl ?_
      refine g_X3_21 (y := m3_matchParts) rfl dX3_matchParts_47 hm ?_
      refine r_iconst (y := m3_matchParts) (v := 2) dX3_matchParts_50 (by decide) ?_
      refine r_iload_n (y := m3_matchParts) dX3_matchParts_51 rfl rfl ?_
      refine r_aload_n (y := m3_matchParts) dX3_matchParts_52 rfl rfl ?_
      refine g_X3_215 (y := m3_matchParts) rfl dX3_matchParts_53 he0 ?_
      refine r_iload_n (y := m3_matchParts) dX3_matchParts_56 rfl rfl ?_
      obtain ⟨hb5, h⟩ := h
      refine r_iald (y := m3_matchParts) (n := ne0) dX3_matchParts_57 (he0.2 3 (by decide) (by decide)).2 hb5 ?_
      refine r_iadd (y := m3_matchParts) dX3_matchParts_58 ?_
      refine r_aload_n (y := m3_matchParts) dX3_matchParts_59 rfl rfl ?_
      refine g_X3_12 (y := m3_matchParts) rfl dX3_matchParts_60 hm ?_
      refine g_X3_225 (y := m3_matchParts) rfl dX3_matchParts_63 hm ?_
      refine r_iload (y := m3_matchParts) dX3_matchParts_66 rfl ?_
      obtain ⟨hb6, h⟩ := h
      refine r_iald (y := m3_matchParts) (n := 3500) dX3_matchParts_68 (sa_16 hm) hb6 ?_
      refine r_iload (y := m3_matchParts) dX3_matchParts_69 rfl ?_
      refine r_callVN (y := m3_matchParts) (As := [(.int 2), (.int (a2 + (mI m (e0 + 3) (Int32.toNatClampNeg a1)))), (.int (mI m 16 (Int32.toNatClampNeg a3))), (.int a4)]) (b := 23) (ci := 9) dX3_matchParts_71 rfl k9_push lm_X3_186 rfl ⟨by decide, by decide⟩ (so_23 hm) (by decide) rfl (Nat.le_of_ble_eq_true rfl) (C.mono h ?_)
      rintro _ m7 ⟨rfl, hm8, h⟩
      refine ⟨none, rfl, ?_⟩
      exact r_ret (y := m3_matchParts) dX3_matchParts_74 rfl h
  · have h := h.2 hc2
    refine r_aload_n (y := m3_matchParts) dX3_matchParts_9 rfl rfl ?_
    refine g_X3_21 (y := m3_matchParts) rfl dX3_matchParts_10 hm ?_
    refine r_iconst (y := m3_matchParts) (v := 2) dX3_matchParts_13 (by decide) ?_
    refine r_iload_n (y := m3_matchParts) dX3_matchParts_14 rfl rfl ?_
    refine r_aload_n (y := m3_matchParts) dX3_matchParts_15 rfl rfl ?_
    refine g_X3_222 (y := m3_matchParts) rfl dX3_matchParts_16 he0 ?_
    refine r_iload_n (y := m3_matchParts) dX3_matchParts_19 rfl rfl ?_
    obtain ⟨hb9, h⟩ := h
    refine r_iald (y := m3_matchParts) (n := ne0) dX3_matchParts_20 (he0.2 4 (by decide) (by decide)).2 hb9 ?_
    refine r_iadd (y := m3_matchParts) dX3_matchParts_21 ?_
    refine r_aload_n (y := m3_matchParts) dX3_matchParts_22 rfl rfl ?_
    refine g_X3_12 (y := m3_matchParts) rfl dX3_matchParts_23 hm ?_
    refine g_X3_226 (y := m3_matchParts) rfl dX3_matchParts_26 hm ?_
    refine r_iload (y := m3_matchParts) dX3_matchParts_29 rfl ?_
    obtain ⟨hb10, h⟩ := h
    refine r_iald (y := m3_matchParts) (n := 3500) dX3_matchParts_31 (sa_17 hm) hb10 ?_
    refine r_iload (y := m3_matchParts) dX3_matchParts_32 rfl ?_
    refine r_callVN (y := m3_matchParts) (As := [(.int 2), (.int (a2 + (mI m (e0 + 4) (Int32.toNatClampNeg a1)))), (.int (mI m 17 (Int32.toNatClampNeg a3))), (.int a4)]) (b := 23) (ci := 9) dX3_matchParts_34 rfl k9_push lm_X3_186 rfl ⟨by decide, by decide⟩ (so_23 hm) (by decide) rfl (Nat.le_of_ble_eq_true rfl) (C.mono h ?_)
    rintro _ m11 ⟨rfl, hm12, h⟩
    refine ⟨none, rfl, ?_⟩
    refine r_aload_n (y := m3_matchParts) dX3_matchParts_37 rfl rfl ?_
    obtain ⟨hx13, h⟩ := h
    refine g_X3_215 (y := m3_matchParts) rfl dX3_matchParts_38 hx13 ?_
    refine r_iload_n (y := m3_matchParts) dX3_matchParts_41 rfl rfl ?_
    obtain ⟨hb14, h⟩ := h
    refine r_iald (y := m3_matchParts) (n := ne0) dX3_matchParts_42 (hx13.2 3 (by decide) (by decide)).2 hb14 ?_
    refine r_if_lt (y := m3_matchParts) (tgt := 74) dX3_matchParts_43 (by decide) (fun hc15 => ?_) (fun hc15 => ?_)
    · have h := h.1 hc15
      exact r_ret (y := m3_matchParts) dX3_matchParts_74 rfl h
    · have h := h.2 hc15
      refine r_aload_n (y := m3_matchParts) dX3_matchParts_46 rfl rfl ?_
      refine g_X3_21 (y := m3_matchParts) rfl dX3_matchParts_47 hm12 ?_
      refine r_iconst (y := m3_matchParts) (v := 2) dX3_matchParts_50 (by decide) ?_
      refine r_iload_n (y := m3_matchParts) dX3_matchParts_51 rfl rfl ?_
      refine r_aload_n (y := m3_matchParts) dX3_matchParts_52 rfl rfl ?_
      refine g_X3_215 (y := m3_matchParts) rfl dX3_matchParts_53 hx13 ?_
      refine r_iload_n (y := m3_matchParts) dX3_matchParts_56 rfl rfl ?_
      obtain ⟨hb16, h⟩ := h
      refine r_iald (y := m3_matchParts) (n := ne0) dX3_matchParts_57 (hx13.2 3 (by decide) (by decide)).2 hb16 ?_
      refine r_iadd (y := m3_matchParts) dX3_matchParts_58 ?_
      refine r_aload_n (y := m3_matchParts) dX3_matchParts_59 rfl rfl ?_
      refine g_X3_12 (y := m3_matchParts) rfl dX3_matchParts_60 hm12 ?_
      refine g_X3_225 (y := m3_matchParts) rfl dX3_matchParts_63 hm12 ?_
      refine r_iload (y := m3_matchParts) dX3_matchParts_66 rfl ?_
      obtain ⟨hb17, h⟩ := h
      refine r_iald (y := m3_matchParts) (n := 3500) dX3_matchParts_68 (sa_16 hm12) hb17 ?_
      refine r_iload (y := m3_matchParts) dX3_matchParts_69 rfl ?_
      refine r_callVN (y := m3_matchParts) (As := [(.int 2), (.int (a2 + (mI m11 (e0 + 3) (Int32.toNatClampNeg a1)))), (.int (mI m11 16 (Int32.toNatClampNeg a3))), (.int a4)]) (b := 23) (ci := 9) dX3_matchParts_71 rfl k9_push lm_X3_186 rfl ⟨by decide, by decide⟩ (so_23 hm12) (by decide) rfl (Nat.le_of_ble_eq_true rfl) (C.mono h ?_)
      rintro _ m18 ⟨rfl, hm19, h⟩
      refine ⟨none, rfl, ?_⟩
      exact r_ret (y := m3_matchParts) dX3_matchParts_74 rfl h
set_option maxHeartbeats 4000000 in
set_option maxRecDepth 100000 in
theorem w3_applyRule {m : Mm} {K : Option Value ⊕ String → Mm → Prop} (hm : St m) {a0 : Int32}  (h : vp_in a0 3500 ∧ vp_in a0 3500 ∧ vp_in (mI m 18 (Int32.toNatClampNeg a0)) 102 ∧ ∃ q5 : Nat, mR m (31 + 2 * (Int32.toNatClampNeg (mI m 18 (Int32.toNatClampNeg a0)))) 3 = some q5 ∧ C m3_openNames [(.ref 12), (.int (mI m 18 (Int32.toNatClampNeg a0))), (.int (mI m 19 (Int32.toNatClampNeg a0)))] m (fun o m7 => o = .inl none ∧ St m7 ∧ ∃ n10 : Nat, isExp m7 q5 n10 ∧ C m3_makeThings [(.ref 12), (.ref q5), (.int ((mI m7 q5 0) - 1)), (.int (mI m 18 (Int32.toNatClampNeg a0))), (.int (mI m 19 (Int32.toNatClampNeg a0)))] m7 (fun o m11 => ∃ x13 : Int32, o = .inl (some (.int x13)) ∧ St m11 ∧ C m10_become [(.ref 13), (.int a0), (.int x13)] m11 (fun o m14 => o = .inl none ∧ St m14 ∧ C m9_push_ [(.ref 23), (.int 0), (.int a0)] m14 (fun o m16 => o = .inl none ∧ St m16 ∧ K (.inl none) m16))))) : V m3_applyRule 0 [some (.ref 12), some (.int a0), none, none, none] [] m K := by
  refine r_aload_n (y := m3_applyRule) dX3_applyRule_0 rfl rfl ?_
  refine g_X3_12 (y := m3_applyRule) rfl dX3_applyRule_1 hm ?_
  refine g_X3_270 (y := m3_applyRule) rfl dX3_applyRule_4 hm ?_
  refine r_iload_n (y := m3_applyRule) dX3_applyRule_7 rfl rfl ?_
  obtain ⟨hb1, h⟩ := h
  refine r_iald (y := m3_applyRule) (n := 3500) dX3_applyRule_8 (sa_18 hm) hb1 ?_
  refine r_istore_n (y := m3_applyRule) (L' := [some (.ref 12), some (.int a0), some (.int (mI m 18 (Int32.toNatClampNeg a0))), none, none]) dX3_applyRule_9 rfl (Nat.le_of_ble_eq_true rfl) rfl ?_
  refine r_aload_n (y := m3_applyRule) dX3_applyRule_10 rfl rfl ?_
  refine g_X3_12 (y := m3_applyRule) rfl dX3_applyRule_11 hm ?_
  refine g_X3_141 (y := m3_applyRule) rfl dX3_applyRule_14 hm ?_
  refine r_iload_n (y := m3_applyRule) dX3_applyRule_17 rfl rfl ?_
  obtain ⟨hb2, h⟩ := h
  refine r_iald (y := m3_applyRule) (n := 3500) dX3_applyRule_18 (sa_19 hm) hb2 ?_
  refine r_istore_n (y := m3_applyRule) (L' := [some (.ref 12), some (.int a0), some (.int (mI m 18 (Int32.toNatClampNeg a0))), some (.int (mI m 19 (Int32.toNatClampNeg a0))), none]) dX3_applyRule_19 rfl (Nat.le_of_ble_eq_true rfl) rfl ?_
  refine r_aload_n (y := m3_applyRule) dX3_applyRule_20 rfl rfl ?_
  refine g_X3_27 (y := m3_applyRule) rfl dX3_applyRule_21 hm ?_
  refine r_iload_n (y := m3_applyRule) dX3_applyRule_24 rfl rfl ?_
  obtain ⟨hb3, h⟩ := h
  have hl4 := vp_lt hb3
  refine r_aald (y := m3_applyRule) (n := 102) (r := some (31 + 2 * (Int32.toNatClampNeg (mI m 18 (Int32.toNatClampNeg a0))))) dX3_applyRule_25 (sa_28 hm) (by decide) (by decide) hb3 (sr_sc hm hl4) ?_
  obtain ⟨q5, hq6, h⟩ := h
  refine g_X3_195 (y := m3_applyRule) (i := (Int32.toNatClampNeg (mI m 18 (Int32.toNatClampNeg a0)))) rfl dX3_applyRule_26 hm hl4 (q := some q5) hq6 ?_
  refine r_astore (y := m3_applyRule) (L' := [some (.ref 12), some (.int a0), some (.int (mI m 18 (Int32.toNatClampNeg a0))), some (.int (mI m 19 (Int32.toNatClampNeg a0))), some (.ref q5)]) dX3_applyRule_29 (Nat.le_of_ble_eq_true rfl) rfl ?_
  refine r_aload_n (y := m3_applyRule) dX3_applyRule_31 rfl rfl ?_
  refine r_iload_n (y := m3_applyRule) dX3_applyRule_32 rfl rfl ?_
  refine r_iload_n (y := m3_applyRule) dX3_applyRule_33 rfl rfl ?_
  refine r_callV (y := m3_applyRule) (As := [(.int (mI m 18 (Int32.toNatClampNeg a0))), (.int (mI m 19 (Int32.toNatClampNeg a0)))]) (b := 12) (ci := 3) dX3_applyRule_34 rfl k3_openNames lm_X3_80 rfl ⟨by decide, by decide⟩ (so_12 hm) (by decide) rfl (Nat.le_of_ble_eq_true rfl) (C.mono h ?_)
  rintro _ m7 ⟨rfl, hm8, h⟩
  refine ⟨none, rfl, ?_⟩
  refine r_aload_n (y := m3_applyRule) dX3_applyRule_37 rfl rfl ?_
  refine g_X3_12 (y := m3_applyRule) rfl dX3_applyRule_38 hm8 ?_
  refine r_iload_n (y := m3_applyRule) dX3_applyRule_41 rfl rfl ?_
  refine r_aload_n (y := m3_applyRule) dX3_applyRule_42 rfl rfl ?_
  refine r_aload (y := m3_applyRule) dX3_applyRule_43 rfl ?_
  refine r_aload (y := m3_applyRule) dX3_applyRule_45 rfl ?_
  obtain ⟨n10, hx9, h⟩ := h
  refine g_X3_84 (y := m3_applyRule) rfl dX3_applyRule_47 hx9 ?_
  refine r_iconst (y := m3_applyRule) (v := 1) dX3_applyRule_50 (by decide) ?_
  refine r_isub (y := m3_applyRule) dX3_applyRule_51 ?_
  refine r_iload_n (y := m3_applyRule) dX3_applyRule_52 rfl rfl ?_
  refine r_iload_n (y := m3_applyRule) dX3_applyRule_53 rfl rfl ?_
  refine r_callV (y := m3_applyRule) (As := [(.ref q5), (.int ((mI m7 q5 0) - 1)), (.int (mI m 18 (Int32.toNatClampNeg a0))), (.int (mI m 19 (Int32.toNatClampNeg a0)))]) (b := 12) (ci := 3) dX3_applyRule_54 rfl k3_makeThings lm_X3_89 rfl ⟨by decide, by decide⟩ (so_12 hm8) (by decide) rfl (Nat.le_of_ble_eq_true rfl) (C.mono h ?_)
  rintro _ m11 ⟨x13, rfl, hm12, h⟩
  refine ⟨_, rfl, ?_⟩
  refine r_callVN (y := m3_applyRule) (As := [(.int a0), (.int x13)]) (b := 13) (ci := 10) dX3_applyRule_57 rfl k10_become lm_X3_255 rfl ⟨by decide, by decide⟩ (so_13 hm12) (by decide) rfl (Nat.le_of_ble_eq_true rfl) (C.mono h ?_)
  rintro _ m14 ⟨rfl, hm15, h⟩
  refine ⟨none, rfl, ?_⟩
  refine r_aload_n (y := m3_applyRule) dX3_applyRule_60 rfl rfl ?_
  refine g_X3_21 (y := m3_applyRule) rfl dX3_applyRule_61 hm15 ?_
  refine r_iconst (y := m3_applyRule) (v := 0) dX3_applyRule_64 (by decide) ?_
  refine r_iload_n (y := m3_applyRule) dX3_applyRule_65 rfl rfl ?_
  refine r_callVN (y := m3_applyRule) (As := [(.int 0), (.int a0)]) (b := 23) (ci := 9) dX3_applyRule_66 rfl k9_push_ lm_X3_93 rfl ⟨by decide, by decide⟩ (so_23 hm15) (by decide) rfl (Nat.le_of_ble_eq_true rfl) (C.mono h ?_)
  rintro _ m16 ⟨rfl, hm17, h⟩
  refine ⟨none, rfl, ?_⟩
  exact r_ret (y := m3_applyRule) dX3_applyRule_69 rfl h
set_option maxHeartbeats 4000000 in
set_option maxRecDepth 100000 in
theorem w3_unite {m : Mm} {K : Option Value ⊕ String → Mm → Prop} (hm : St m) {a0 : Int32} {a1 : Int32} {a2 : Int32} {a3 : Int32}  (h : ((a0 = a1 → K (.inl none) m) ∧ (¬ a0 = a1 → C m3_doStep [(.ref 12)] m (fun o m2 => ∃ x4 : Int32, o = .inl (some (.int x4)) ∧ St m2 ∧ ((¬ x4 = 0 → vp_in a0 3500 ∧ ((¬ (mI m2 14 (Int32.toNatClampNeg a0)) = 7 → vp_in a1 3500 ∧ ((¬ (mI m2 14 (Int32.toNatClampNeg a1)) = 7 → vp_in a0 3500 ∧ vp_in a1 3500 ∧ (((mI m2 15 (Int32.toNatClampNeg a0)) = (mI m2 15 (Int32.toNatClampNeg a1)) → C m3_pushPairs [(.ref 12), (.int 4), (.int a0), (.int a1), (.int a3)] m2 (fun o m13 => o = .inl none ∧ St m13 ∧ K (.inl none) m13)) ∧ (¬ (mI m2 15 (Int32.toNatClampNeg a0)) = (mI m2 15 (Int32.toNatClampNeg a1)) → C m3_fail [(.ref 12), (.int a2)] m2 (fun o m15 => o = .inl none ∧ St m15 ∧ K (.inl none) m15)))) ∧ ((mI m2 14 (Int32.toNatClampNeg a1)) = 7 → C m3_bind [(.ref 12), (.int a1), (.int a0), (.int a2)] m2 (fun o m17 => o = .inl none ∧ St m17 ∧ K (.inl none) m17)))) ∧ ((mI m2 14 (Int32.toNatClampNeg a0)) = 7 → C m3_bind [(.ref 12), (.int a0), (.int a1), (.int a2)] m2 (fun o m19 => o = .inl none ∧ St m19 ∧ K (.inl none) m19)))) ∧ (x4 = 0 → K (.inl none) m2)))))) : V m3_unite 0 [some (.ref 12), some (.int a0), some (.int a1), some (.int a2), some (.int a3)] [] m K := by
  refine r_iload_n (y := m3_unite) dX3_unite_0 rfl rfl ?_
  refine r_iload_n (y := m3_unite) dX3_unite_1 rfl rfl ?_
  refine r_icmp_eq (y := m3_unite) (tgt := 12) dX3_unite_2 (by decide) (fun hc1 => ?_) (fun hc1 => ?_)
  · have h := h.1 hc1
    exact r_ret (y := m3_unite) dX3_unite_12 rfl h
  · have h := h.2 hc1
    refine r_aload_n (y := m3_unite) dX3_unite_5 rfl rfl ?_
    refine r_callV (y := m3_unite) (As := []) (b := 12) (ci := 3) dX3_unite_6 rfl k3_doStep lm_X3_267 rfl ⟨by decide, by decide⟩ (so_12 hm) (by decide) rfl (Nat.le_of_ble_eq_true rfl) (C.mono h ?_)
    rintro _ m2 ⟨x4, rfl, hm3, h⟩
    refine ⟨_, rfl, ?_⟩
    refine r_if_ne (y := m3_unite) (tgt := 13) dX3_unite_9 (by decide) (fun hc5 => ?_) (fun hc5 => ?_)
    · have h := h.1 hc5
      refine r_aload_n (y := m3_unite) dX3_unite_13 rfl rfl ?_
      refine g_X3_12 (y := m3_unite) rfl dX3_unite_14 hm3 ?_
      refine g_X3_227 (y := m3_unite) rfl dX3_unite_17 hm3 ?_
      refine r_iload_n (y := m3_unite) dX3_unite_20 rfl rfl ?_
      obtain ⟨hb6, h⟩ := h
      refine r_iald (y := m3_unite) (n := 3500) dX3_unite_21 (sa_14 hm3) hb6 ?_
      refine r_bipush (y := m3_unite) (v := 7) dX3_unite_22 (by decide) ?_
      refine r_icmp_ne (y := m3_unite) (tgt := 37) dX3_unite_24 (by decide) (fun hc7 => ?_) (fun hc7 => ?_)
      · have h := h.1 hc7
        refine r_aload_n (y := m3_unite) dX3_unite_37 rfl rfl ?_
        refine g_X3_12 (y := m3_unite) rfl dX3_unite_38 hm3 ?_
        refine g_X3_227 (y := m3_unite) rfl dX3_unite_41 hm3 ?_
        refine r_iload_n (y := m3_unite) dX3_unite_44 rfl rfl ?_
        obtain ⟨hb8, h⟩ := h
        refine r_iald (y := m3_unite) (n := 3500) dX3_unite_45 (sa_14 hm3) hb8 ?_
        refine r_bipush (y := m3_unite) (v := 7) dX3_unite_46 (by decide) ?_
        refine r_icmp_ne (y := m3_unite) (tgt := 61) dX3_unite_48 (by decide) (fun hc9 => ?_) (fun hc9 => ?_)
        · have h := h.1 hc9
          refine r_aload_n (y := m3_unite) dX3_unite_61 rfl rfl ?_
          refine g_X3_12 (y := m3_unite) rfl dX3_unite_62 hm3 ?_
          refine g_X3_247 (y := m3_unite) rfl dX3_unite_65 hm3 ?_
          refine r_iload_n (y := m3_unite) dX3_unite_68 rfl rfl ?_
          obtain ⟨hb10, h⟩ := h
          refine r_iald (y := m3_unite) (n := 3500) dX3_unite_69 (sa_15 hm3) hb10 ?_
          refine r_aload_n (y := m3_unite) dX3_unite_70 rfl rfl ?_
          refine g_X3_12 (y := m3_unite) rfl dX3_unite_71 hm3 ?_
          refine g_X3_247 (y := m3_unite) rfl dX3_unite_74 hm3 ?_
          refine r_iload_n (y := m3_unite) dX3_unite_77 rfl rfl ?_
          obtain ⟨hb11, h⟩ := h
          refine r_iald (y := m3_unite) (n := 3500) dX3_unite_78 (sa_15 hm3) hb11 ?_
          refine r_icmp_eq (y := m3_unite) (tgt := 90) dX3_unite_79 (by decide) (fun hc12 => ?_) (fun hc12 => ?_)
          · have h := h.1 hc12
            refine r_aload_n (y := m3_unite) dX3_unite_90 rfl rfl ?_
            refine r_iconst (y := m3_unite) (v := 4) dX3_unite_91 (by decide) ?_
            refine r_iload_n (y := m3_unite) dX3_unite_92 rfl rfl ?_
            refine r_iload_n (y := m3_unite) dX3_unite_93 rfl rfl ?_
            refine r_iload (y := m3_unite) dX3_unite_94 rfl ?_
            refine r_callV (y := m3_unite) (As := [(.int 4), (.int a0), (.int a1), (.int a3)]) (b := 12) (ci := 3) dX3_unite_96 rfl k3_pushPairs lm_X3_300 rfl ⟨by decide, by decide⟩ (so_12 hm3) (by decide) rfl (Nat.le_of_ble_eq_true rfl) (C.mono h ?_)
            rintro _ m13 ⟨rfl, hm14, h⟩
            refine ⟨none, rfl, ?_⟩
            exact r_ret (y := m3_unite) dX3_unite_99 rfl h
          · have h := h.2 hc12
            refine r_aload_n (y := m3_unite) dX3_unite_82 rfl rfl ?_
            refine r_iload_n (y := m3_unite) dX3_unite_83 rfl rfl ?_
            refine r_callV (y := m3_unite) (As := [(.int a2)]) (b := 12) (ci := 3) dX3_unite_84 rfl k3_fail lm_X3_154 rfl ⟨by decide, by decide⟩ (so_12 hm3) (by decide) rfl (Nat.le_of_ble_eq_true rfl) (C.mono h ?_)
            rintro _ m15 ⟨rfl, hm16, h⟩
            refine ⟨none, rfl, ?_⟩
            refine r_goto (y := m3_unite) (tgt := 99) dX3_unite_87 (by decide) ?_
            exact r_ret (y := m3_unite) dX3_unite_99 rfl h
        · have h := h.2 hc9
          refine r_aload_n (y := m3_unite) dX3_unite_51 rfl rfl ?_
          refine r_iload_n (y := m3_unite) dX3_unite_52 rfl rfl ?_
          refine r_iload_n (y := m3_unite) dX3_unite_53 rfl rfl ?_
          refine r_iload_n (y := m3_unite) dX3_unite_54 rfl rfl ?_
          refine r_callV (y := m3_unite) (As := [(.int a1), (.int a0), (.int a2)]) (b := 12) (ci := 3) dX3_unite_55 rfl k3_bind lm_X3_297 rfl ⟨by decide, by decide⟩ (so_12 hm3) (by decide) rfl (Nat.le_of_ble_eq_true rfl) (C.mono h ?_)
          rintro _ m17 ⟨rfl, hm18, h⟩
          refine ⟨none, rfl, ?_⟩
          refine r_goto (y := m3_unite) (tgt := 99) dX3_unite_58 (by decide) ?_
          exact r_ret (y := m3_unite) dX3_unite_99 rfl h
      · have h := h.2 hc7
        refine r_aload_n (y := m3_unite) dX3_unite_27 rfl rfl ?_
        refine r_iload_n (y := m3_unite) dX3_unite_28 rfl rfl ?_
        refine r_iload_n (y := m3_unite) dX3_unite_29 rfl rfl ?_
        refine r_iload_n (y := m3_unite) dX3_unite_30 rfl rfl ?_
        refine r_callV (y := m3_unite) (As := [(.int a0), (.int a1), (.int a2)]) (b := 12) (ci := 3) dX3_unite_31 rfl k3_bind lm_X3_297 rfl ⟨by decide, by decide⟩ (so_12 hm3) (by decide) rfl (Nat.le_of_ble_eq_true rfl) (C.mono h ?_)
        rintro _ m19 ⟨rfl, hm20, h⟩
        refine ⟨none, rfl, ?_⟩
        refine r_goto (y := m3_unite) (tgt := 99) dX3_unite_34 (by decide) ?_
        exact r_ret (y := m3_unite) dX3_unite_99 rfl h
    · have h := h.2 hc5
      exact r_ret (y := m3_unite) dX3_unite_12 rfl h
set_option maxHeartbeats 4000000 in
set_option maxRecDepth 100000 in
theorem w3_bind {m : Mm} {K : Option Value ⊕ String → Mm → Prop} (hm : St m) {a0 : Int32} {a1 : Int32} {a2 : Int32}  (h : C m10_isIn [(.ref 13), (.int a0), (.int a1)] m (fun o m1 => ∃ x3 : Int32, o = .inl (some (.int x3)) ∧ St m1 ∧ ((x3 = 0 → vp_in a0 3500 ∧ ((¬ (mI m1 19 (Int32.toNatClampNeg a0)) = a2 → vp_in a1 3500 ∧ ((¬ (mI m1 14 (Int32.toNatClampNeg a1)) = 7 → K (.inl none) (mSetI m1 12 12 2)) ∧ ((mI m1 14 (Int32.toNatClampNeg a1)) = 7 → vp_in a1 3500 ∧ ((¬ (mI m1 19 (Int32.toNatClampNeg a1)) = a2 → K (.inl none) (mSetI m1 12 12 2)) ∧ ((mI m1 19 (Int32.toNatClampNeg a1)) = a2 → C m10_become [(.ref 13), (.int a1), (.int a0)] m1 (fun o m11 => o = .inl none ∧ St m11 ∧ K (.inl none) m11)))))) ∧ ((mI m1 19 (Int32.toNatClampNeg a0)) = a2 → C m10_become [(.ref 13), (.int a0), (.int a1)] m1 (fun o m13 => o = .inl none ∧ St m13 ∧ K (.inl none) m13)))) ∧ (¬ x3 = 0 → C m3_fail [(.ref 12), (.int a2)] m1 (fun o m15 => o = .inl none ∧ St m15 ∧ K (.inl none) m15))))) : V m3_bind 0 [some (.ref 12), some (.int a0), some (.int a1), some (.int a2)] [] m K := by
  refine r_aload_n (y := m3_bind) dX3_bind_0 rfl rfl ?_
  refine g_X3_12 (y := m3_bind) rfl dX3_bind_1 hm ?_
  refine r_iload_n (y := m3_bind) dX3_bind_4 rfl rfl ?_
  refine r_iload_n (y := m3_bind) dX3_bind_5 rfl rfl ?_
  refine r_callVN (y := m3_bind) (As := [(.int a0), (.int a1)]) (b := 13) (ci := 10) dX3_bind_6 rfl k10_isIn lm_X3_303 rfl ⟨by decide, by decide⟩ (so_13 hm) (by decide) rfl (Nat.le_of_ble_eq_true rfl) (C.mono h ?_)
  rintro _ m1 ⟨x3, rfl, hm2, h⟩
  refine ⟨_, rfl, ?_⟩
  refine r_if_eq (y := m3_bind) (tgt := 20) dX3_bind_9 (by decide) (fun hc4 => ?_) (fun hc4 => ?_)
  · have h := h.1 hc4
    refine r_aload_n (y := m3_bind) dX3_bind_20 rfl rfl ?_
    refine g_X3_12 (y := m3_bind) rfl dX3_bind_21 hm2 ?_
    refine g_X3_141 (y := m3_bind) rfl dX3_bind_24 hm2 ?_
    refine r_iload_n (y := m3_bind) dX3_bind_27 rfl rfl ?_
    obtain ⟨hb5, h⟩ := h
    refine r_iald (y := m3_bind) (n := 3500) dX3_bind_28 (sa_19 hm2) hb5 ?_
    refine r_iload_n (y := m3_bind) dX3_bind_29 rfl rfl ?_
    refine r_icmp_ne (y := m3_bind) (tgt := 45) dX3_bind_30 (by decide) (fun hc6 => ?_) (fun hc6 => ?_)
    · have h := h.1 hc6
      refine r_aload_n (y := m3_bind) dX3_bind_45 rfl rfl ?_
      refine g_X3_12 (y := m3_bind) rfl dX3_bind_46 hm2 ?_
      refine g_X3_227 (y := m3_bind) rfl dX3_bind_49 hm2 ?_
      refine r_iload_n (y := m3_bind) dX3_bind_52 rfl rfl ?_
      obtain ⟨hb7, h⟩ := h
      refine r_iald (y := m3_bind) (n := 3500) dX3_bind_53 (sa_14 hm2) hb7 ?_
      refine r_bipush (y := m3_bind) (v := 7) dX3_bind_54 (by decide) ?_
      refine r_icmp_ne (y := m3_bind) (tgt := 84) dX3_bind_56 (by decide) (fun hc8 => ?_) (fun hc8 => ?_)
      · have h := h.1 hc8
        refine r_aload_n (y := m3_bind) dX3_bind_84 rfl rfl ?_
        refine r_iconst (y := m3_bind) (v := 2) dX3_bind_85 (by decide) ?_
        refine p_X3_57 (y := m3_bind) rfl dX3_bind_86 hm2 ?_
        exact r_ret (y := m3_bind) dX3_bind_89 rfl h
      · have h := h.2 hc8
        refine r_aload_n (y := m3_bind) dX3_bind_59 rfl rfl ?_
        refine g_X3_12 (y := m3_bind) rfl dX3_bind_60 hm2 ?_
        refine g_X3_141 (y := m3_bind) rfl dX3_bind_63 hm2 ?_
        refine r_iload_n (y := m3_bind) dX3_bind_66 rfl rfl ?_
        obtain ⟨hb9, h⟩ := h
        refine r_iald (y := m3_bind) (n := 3500) dX3_bind_67 (sa_19 hm2) hb9 ?_
        refine r_iload_n (y := m3_bind) dX3_bind_68 rfl rfl ?_
        refine r_icmp_ne (y := m3_bind) (tgt := 84) dX3_bind_69 (by decide) (fun hc10 => ?_) (fun hc10 => ?_)
        · have h := h.1 hc10
          refine r_aload_n (y := m3_bind) dX3_bind_84 rfl rfl ?_
          refine r_iconst (y := m3_bind) (v := 2) dX3_bind_85 (by decide) ?_
          refine p_X3_57 (y := m3_bind) rfl dX3_bind_86 hm2 ?_
          exact r_ret (y := m3_bind) dX3_bind_89 rfl h
        · have h := h.2 hc10
          refine r_aload_n (y := m3_bind) dX3_bind_72 rfl rfl ?_
          refine g_X3_12 (y := m3_bind) rfl dX3_bind_73 hm2 ?_
          refine r_iload_n (y := m3_bind) dX3_bind_76 rfl rfl ?_
          refine r_iload_n (y := m3_bind) dX3_bind_77 rfl rfl ?_
          refine r_callVN (y := m3_bind) (As := [(.int a1), (.int a0)]) (b := 13) (ci := 10) dX3_bind_78 rfl k10_become lm_X3_255 rfl ⟨by decide, by decide⟩ (so_13 hm2) (by decide) rfl (Nat.le_of_ble_eq_true rfl) (C.mono h ?_)
          rintro _ m11 ⟨rfl, hm12, h⟩
          refine ⟨none, rfl, ?_⟩
          refine r_goto (y := m3_bind) (tgt := 89) dX3_bind_81 (by decide) ?_
          exact r_ret (y := m3_bind) dX3_bind_89 rfl h
    · have h := h.2 hc6
      refine r_aload_n (y := m3_bind) dX3_bind_33 rfl rfl ?_
      refine g_X3_12 (y := m3_bind) rfl dX3_bind_34 hm2 ?_
      refine r_iload_n (y := m3_bind) dX3_bind_37 rfl rfl ?_
      refine r_iload_n (y := m3_bind) dX3_bind_38 rfl rfl ?_
      refine r_callVN (y := m3_bind) (As := [(.int a0), (.int a1)]) (b := 13) (ci := 10) dX3_bind_39 rfl k10_become lm_X3_255 rfl ⟨by decide, by decide⟩ (so_13 hm2) (by decide) rfl (Nat.le_of_ble_eq_true rfl) (C.mono h ?_)
      rintro _ m13 ⟨rfl, hm14, h⟩
      refine ⟨none, rfl, ?_⟩
      refine r_goto (y := m3_bind) (tgt := 89) dX3_bind_42 (by decide) ?_
      exact r_ret (y := m3_bind) dX3_bind_89 rfl h
  · have h := h.2 hc4
    refine r_aload_n (y := m3_bind) dX3_bind_12 rfl rfl ?_
    refine r_iload_n (y := m3_bind) dX3_bind_13 rfl rfl ?_
    refine r_callV (y := m3_bind) (As := [(.int a2)]) (b := 12) (ci := 3) dX3_bind_14 rfl k3_fail lm_X3_154 rfl ⟨by decide, by decide⟩ (so_12 hm2) (by decide) rfl (Nat.le_of_ble_eq_true rfl) (C.mono h ?_)
    rintro _ m15 ⟨rfl, hm16, h⟩
    refine ⟨none, rfl, ?_⟩
    refine r_goto (y := m3_bind) (tgt := 89) dX3_bind_17 (by decide) ?_
    exact r_ret (y := m3_bind) dX3_bind_89 rfl h
set_option maxHeartbeats 4000000 in
set_option maxRecDepth 100000 in
theorem w3_pushPairs {m : Mm} {K : Option Value ⊕ String → Mm → Prop} (hm : St m) {a0 : Int32} {a1 : Int32} {a2 : Int32} {a3 : Int32}  (h : vp_in a1 3500 ∧ C m11_partsOfKind [(.int (mI m 15 (Int32.toNatClampNeg a1)))] m (fun o m2 => ∃ x4 : Int32, o = .inl (some (.int x4)) ∧ St m2 ∧ ((x4 ≤ 1 → ((x4 ≤ 0 → K (.inl none) m2) ∧ (¬ x4 ≤ 0 → vp_in a1 3500 ∧ vp_in a2 3500 ∧ C m9_push [(.ref 23), (.int a0), (.int (mI m2 16 (Int32.toNatClampNeg a1))), (.int (mI m2 16 (Int32.toNatClampNeg a2))), (.int a3)] m2 (fun o m9 => o = .inl none ∧ St m9 ∧ K (.inl none) m9)))) ∧ (¬ x4 ≤ 1 → vp_in a1 3500 ∧ vp_in a2 3500 ∧ C m9_push [(.ref 23), (.int a0), (.int (mI m2 17 (Int32.toNatClampNeg a1))), (.int (mI m2 17 (Int32.toNatClampNeg a2))), (.int a3)] m2 (fun o m13 => o = .inl none ∧ St m13 ∧ ((x4 ≤ 0 → K (.inl none) m13) ∧ (¬ x4 ≤ 0 → vp_in a1 3500 ∧ vp_in a2 3500 ∧ C m9_push [(.ref 23), (.int a0), (.int (mI m13 16 (Int32.toNatClampNeg a1))), (.int (mI m13 16 (Int32.toNatClampNeg a2))), (.int a3)] m13 (fun o m18 => o = .inl none ∧ St m18 ∧ K (.inl none) m18)))))))) : V m3_pushPairs 0 [some (.ref 12), some (.int a0), some (.int a1), some (.int a2), some (.int a3), none] [] m K := by
  refine r_aload_n (y := m3_pushPairs) dX3_pushPairs_0 rfl rfl ?_
  refine g_X3_12 (y := m3_pushPairs) rfl dX3_pushPairs_1 hm ?_
  refine g_X3_247 (y := m3_pushPairs) rfl dX3_pushPairs_4 hm ?_
  refine r_iload_n (y := m3_pushPairs) dX3_pushPairs_7 rfl rfl ?_
  obtain ⟨hb1, h⟩ := h
  refine r_iald (y := m3_pushPairs) (n := 3500) dX3_pushPairs_8 (sa_15 hm) hb1 ?_
  refine r_callSN (y := m3_pushPairs) (As := [(.int (mI m 15 (Int32.toNatClampNeg a1)))]) dX3_pushPairs_9 rfl k11_partsOfKind lm_X3_248 rfl ⟨by decide, by decide⟩ (Nat.le_of_ble_eq_true rfl) (C.mono h ?_)
  rintro _ m2 ⟨x4, rfl, hm3, h⟩
  refine ⟨_, rfl, ?_⟩
  refine r_istore (y := m3_pushPairs) (L' := [some (.ref 12), some (.int a0), some (.int a1), some (.int a2), some (.int a3), some (.int x4)]) dX3_pushPairs_12 (Nat.le_of_ble_eq_true rfl) rfl ?_
  refine r_iload (y := m3_pushPairs) dX3_pushPairs_14 rfl ?_
  refine r_iconst (y := m3_pushPairs) (v := 1) dX3_pushPairs_16 (by decide) ?_
  refine r_icmp_le (y := m3_pushPairs) (tgt := 48) dX3_pushPairs_17 (by decide) (fun hc5 => ?_) (fun hc5 => ?_)
  · have h := h.1 hc5
    refine r_iload (y := m3_pushPairs) dX3_pushPairs_48 rfl ?_
    refine r_if_le (y := m3_pushPairs) (tgt := 81) dX3_pushPairs_50 (by decide) (fun hc6 => ?_) (fun hc6 => ?_)
    · have h := h.1 hc6
      exact r_ret (y := m3_pushPairs) dX3_pushPairs_81 rfl h
    · have h := h.2 hc6
      refine r_aload_n (y := m3_pushPairs) dX3_pushPairs_53 rfl rfl ?_
      refine g_X3_21 (y := m3_pushPairs) rfl dX3_pushPairs_54 hm3 ?_
      refine r_iload_n (y := m3_pushPairs) dX3_pushPairs_57 rfl rfl ?_
      refine r_aload_n (y := m3_pushPairs) dX3_pushPairs_58 rfl rfl ?_
      refine g_X3_12 (y := m3_pushPairs) rfl dX3_pushPairs_59 hm3 ?_
      refine g_X3_225 (y := m3_pushPairs) rfl dX3_pushPairs_62 hm3 ?_
      refine r_iload_n (y := m3_pushPairs) dX3_pushPairs_65 rfl rfl ?_
      obtain ⟨hb7, h⟩ := h
      refine r_iald (y := m3_pushPairs) (n := 3500) dX3_pushPairs_66 (sa_16 hm3) hb7 ?_
      refine r_aload_n (y := m3_pushPairs) dX3_pushPairs_67 rfl rfl ?_
      refine g_X3_12 (y := m3_pushPairs) rfl dX3_pushPairs_68 hm3 ?_
      refine g_X3_225 (y := m3_pushPairs) rfl dX3_pushPairs_71 hm3 ?_
      refine r_iload_n (y := m3_pushPairs) dX3_pushPairs_74 rfl rfl ?_
      obtain ⟨hb8, h⟩ := h
      refine r_iald (y := m3_pushPairs) (n := 3500) dX3_pushPairs_75 (sa_16 hm3) hb8 ?_
      refine r_iload (y := m3_pushPairs) dX3_pushPairs_76 rfl ?_
      refine r_callVN (y := m3_pushPairs) (As := [(.int a0), (.int (mI m2 16 (Int32.toNatClampNeg a1))), (.int (mI m2 16 (Int32.toNatClampNeg a2))), (.int a3)]) (b := 23) (ci := 9) dX3_pushPairs_78 rfl k9_push lm_X3_186 rfl ⟨by decide, by decide⟩ (so_23 hm3) (by decide) rfl (Nat.le_of_ble_eq_true rfl) (C.mono h ?_)
      rintro _ m9 ⟨rfl, hm10, h⟩
      refine ⟨none, rfl, ?_⟩
      exact r_ret (y := m3_pushPairs) dX3_pushPairs_81 rfl h
  · have h := h.2 hc5
    refine r_aload_n (y := m3_pushPairs) dX3_pushPairs_20 rfl rfl ?_
    refine g_X3_21 (y := m3_pushPairs) rfl dX3_pushPairs_21 hm3 ?_
    refine r_iload_n (y := m3_pushPairs) dX3_pushPairs_24 rfl rfl ?_
    refine r_aload_n (y := m3_pushPairs) dX3_pushPairs_25 rfl rfl ?_
    refine g_X3_12 (y := m3_pushPairs) rfl dX3_pushPairs_26 hm3 ?_
    refine g_X3_226 (y := m3_pushPairs) rfl dX3_pushPairs_29 hm3 ?_
    refine r_iload_n (y := m3_pushPairs) dX3_pushPairs_32 rfl rfl ?_
    obtain ⟨hb11, h⟩ := h
    refine r_iald (y := m3_pushPairs) (n := 3500) dX3_pushPairs_33 (sa_17 hm3) hb11 ?_
    refine r_aload_n (y := m3_pushPairs) dX3_pushPairs_34 rfl rfl ?_
    refine g_X3_12 (y := m3_pushPairs) rfl dX3_pushPairs_35 hm3 ?_
    refine g_X3_226 (y := m3_pushPairs) rfl dX3_pushPairs_38 hm3 ?_
    refine r_iload_n (y := m3_pushPairs) dX3_pushPairs_41 rfl rfl ?_
    obtain ⟨hb12, h⟩ := h
    refine r_iald (y := m3_pushPairs) (n := 3500) dX3_pushPairs_42 (sa_17 hm3) hb12 ?_
    refine r_iload (y := m3_pushPairs) dX3_pushPairs_43 rfl ?_
    refine r_callVN (y := m3_pushPairs) (As := [(.int a0), (.int (mI m2 17 (Int32.toNatClampNeg a1))), (.int (mI m2 17 (Int32.toNatClampNeg a2))), (.int a3)]) (b := 23) (ci := 9) dX3_pushPairs_45 rfl k9_push lm_X3_186 rfl ⟨by decide, by decide⟩ (so_23 hm3) (by decide) rfl (Nat.le_of_ble_eq_true rfl) (C.mono h ?_)
    rintro _ m13 ⟨rfl, hm14, h⟩
    refine ⟨none, rfl, ?_⟩
    refine r_iload (y := m3_pushPairs) dX3_pushPairs_48 rfl ?_
    refine r_if_le (y := m3_pushPairs) (tgt := 81) dX3_pushPairs_50 (by decide) (fun hc15 => ?_) (fun hc15 => ?_)
    · have h := h.1 hc15
      exact r_ret (y := m3_pushPairs) dX3_pushPairs_81 rfl h
    · have h := h.2 hc15
      refine r_aload_n (y := m3_pushPairs) dX3_pushPairs_53 rfl rfl ?_
      refine g_X3_21 (y := m3_pushPairs) rfl dX3_pushPairs_54 hm14 ?_
      refine r_iload_n (y := m3_pushPairs) dX3_pushPairs_57 rfl rfl ?_
      refine r_aload_n (y := m3_pushPairs) dX3_pushPairs_58 rfl rfl ?_
      refine g_X3_12 (y := m3_pushPairs) rfl dX3_pushPairs_59 hm14 ?_
      refine g_X3_225 (y := m3_pushPairs) rfl dX3_pushPairs_62 hm14 ?_
      refine r_iload_n (y := m3_pushPairs) dX3_pushPairs_65 rfl rfl ?_
      obtain ⟨hb16, h⟩ := h
      refine r_iald (y := m3_pushPairs) (n := 3500) dX3_pushPairs_66 (sa_16 hm14) hb16 ?_
      refine r_aload_n (y := m3_pushPairs) dX3_pushPairs_67 rfl rfl ?_
      refine g_X3_12 (y := m3_pushPairs) rfl dX3_pushPairs_68 hm14 ?_
      refine g_X3_225 (y := m3_pushPairs) rfl dX3_pushPairs_71 hm14 ?_
      refine r_iload_n (y := m3_pushPairs) dX3_pushPairs_74 rfl rfl ?_
      obtain ⟨hb17, h⟩ := h
      refine r_iald (y := m3_pushPairs) (n := 3500) dX3_pushPairs_75 (sa_16 hm14) hb17 ?_
      refine r_iload (y := m3_pushPairs) dX3_pushPairs_76 rfl ?_
      refine r_callVN (y := m3_pushPairs) (As := [(.int a0), (.int (mI m13 16 (Int32.toNatClampNeg a1))), (.int (mI m13 16 (Int32.toNatClampNeg a2))), (.int a3)]) (b := 23) (ci := 9) dX3_pushPairs_78 rfl k9_push lm_X3_186 rfl ⟨by decide, by decide⟩ (so_23 hm14) (by decide) rfl (Nat.le_of_ble_eq_true rfl) (C.mono h ?_)
      rintro _ m18 ⟨rfl, hm19, h⟩
      refine ⟨none, rfl, ?_⟩
      exact r_ret (y := m3_pushPairs) dX3_pushPairs_81 rfl h
set_option maxHeartbeats 4000000 in
set_option maxRecDepth 100000 in
theorem w3_ask {m : Mm} {K : Option Value ⊕ String → Mm → Prop} (hm : St m) {a0 : Int32} {a1 : Int32} {a2 : Int32}  (h : ((¬ a0 = a1 → vp_in a0 3500 ∧ (((mI m 14 (Int32.toNatClampNeg a0)) = 7 → K (.inl none) (mSetI m 12 12 2)) ∧ (¬ (mI m 14 (Int32.toNatClampNeg a0)) = 7 → vp_in a1 3500 ∧ ((¬ (mI m 14 (Int32.toNatClampNeg a1)) = 7 → C m3_doStep [(.ref 12)] m (fun o m6 => ∃ x8 : Int32, o = .inl (some (.int x8)) ∧ St m6 ∧ ((¬ x8 = 0 → vp_in a0 3500 ∧ vp_in a1 3500 ∧ ((¬ (mI m6 15 (Int32.toNatClampNeg a0)) = (mI m6 15 (Int32.toNatClampNeg a1)) → C m3_dropAsking [(.ref 12)] m6 (fun o m13 => o = .inl none ∧ St m13 ∧ C m10_becomeData [(.ref 13), (.int a2), (.int 1), (.int (-1)), (.int (-1))] m13 (fun o m15 => o = .inl none ∧ St m15 ∧ K (.inl none) m15))) ∧ ((mI m6 15 (Int32.toNatClampNeg a0)) = (mI m6 15 (Int32.toNatClampNeg a1)) → C m3_pushPairs [(.ref 12), (.int 6), (.int a0), (.int a1), (.int a2)] m6 (fun o m17 => o = .inl none ∧ St m17 ∧ K (.inl none) m17)))) ∧ (x8 = 0 → K (.inl none) m6)))) ∧ ((mI m 14 (Int32.toNatClampNeg a1)) = 7 → K (.inl none) (mSetI m 12 12 2)))))) ∧ (a0 = a1 → K (.inl none) m))) : V m3_ask 0 [some (.ref 12), some (.int a0), some (.int a1), some (.int a2)] [] m K := by
  refine r_iload_n (y := m3_ask) dX3_ask_0 rfl rfl ?_
  refine r_iload_n (y := m3_ask) dX3_ask_1 rfl rfl ?_
  refine r_icmp_ne (y := m3_ask) (tgt := 6) dX3_ask_2 (by decide) (fun hc1 => ?_) (fun hc1 => ?_)
  · have h := h.1 hc1
    refine r_aload_n (y := m3_ask) dX3_ask_6 rfl rfl ?_
    refine g_X3_12 (y := m3_ask) rfl dX3_ask_7 hm ?_
    refine g_X3_227 (y := m3_ask) rfl dX3_ask_10 hm ?_
    refine r_iload_n (y := m3_ask) dX3_ask_13 rfl rfl ?_
    obtain ⟨hb2, h⟩ := h
    refine r_iald (y := m3_ask) (n := 3500) dX3_ask_14 (sa_14 hm) hb2 ?_
    refine r_bipush (y := m3_ask) (v := 7) dX3_ask_15 (by decide) ?_
    refine r_icmp_eq (y := m3_ask) (tgt := 34) dX3_ask_17 (by decide) (fun hc3 => ?_) (fun hc3 => ?_)
    · have h := h.1 hc3
      refine r_aload_n (y := m3_ask) dX3_ask_34 rfl rfl ?_
      refine r_iconst (y := m3_ask) (v := 2) dX3_ask_35 (by decide) ?_
      refine p_X3_57 (y := m3_ask) rfl dX3_ask_36 hm ?_
      exact r_ret (y := m3_ask) dX3_ask_39 rfl h
    · have h := h.2 hc3
      refine r_aload_n (y := m3_ask) dX3_ask_20 rfl rfl ?_
      refine g_X3_12 (y := m3_ask) rfl dX3_ask_21 hm ?_
      refine g_X3_227 (y := m3_ask) rfl dX3_ask_24 hm ?_
      refine r_iload_n (y := m3_ask) dX3_ask_27 rfl rfl ?_
      obtain ⟨hb4, h⟩ := h
      refine r_iald (y := m3_ask) (n := 3500) dX3_ask_28 (sa_14 hm) hb4 ?_
      refine r_bipush (y := m3_ask) (v := 7) dX3_ask_29 (by decide) ?_
      refine r_icmp_ne (y := m3_ask) (tgt := 40) dX3_ask_31 (by decide) (fun hc5 => ?_) (fun hc5 => ?_)
      · have h := h.1 hc5
        refine r_aload_n (y := m3_ask) dX3_ask_40 rfl rfl ?_
        refine r_callV (y := m3_ask) (As := []) (b := 12) (ci := 3) dX3_ask_41 rfl k3_doStep lm_X3_267 rfl ⟨by decide, by decide⟩ (so_12 hm) (by decide) rfl (Nat.le_of_ble_eq_true rfl) (C.mono h ?_)
        rintro _ m6 ⟨x8, rfl, hm7, h⟩
        refine ⟨_, rfl, ?_⟩
        refine r_if_ne (y := m3_ask) (tgt := 48) dX3_ask_44 (by decide) (fun hc9 => ?_) (fun hc9 => ?_)
        · have h := h.1 hc9
          refine r_aload_n (y := m3_ask) dX3_ask_48 rfl rfl ?_
          refine g_X3_12 (y := m3_ask) rfl dX3_ask_49 hm7 ?_
          refine g_X3_247 (y := m3_ask) rfl dX3_ask_52 hm7 ?_
          refine r_iload_n (y := m3_ask) dX3_ask_55 rfl rfl ?_
          obtain ⟨hb10, h⟩ := h
          refine r_iald (y := m3_ask) (n := 3500) dX3_ask_56 (sa_15 hm7) hb10 ?_
          refine r_aload_n (y := m3_ask) dX3_ask_57 rfl rfl ?_
          refine g_X3_12 (y := m3_ask) rfl dX3_ask_58 hm7 ?_
          refine g_X3_247 (y := m3_ask) rfl dX3_ask_61 hm7 ?_
          refine r_iload_n (y := m3_ask) dX3_ask_64 rfl rfl ?_
          obtain ⟨hb11, h⟩ := h
          refine r_iald (y := m3_ask) (n := 3500) dX3_ask_65 (sa_15 hm7) hb11 ?_
          refine r_icmp_ne (y := m3_ask) (tgt := 81) dX3_ask_66 (by decide) (fun hc12 => ?_) (fun hc12 => ?_)
          · have h := h.1 hc12
            refine r_aload_n (y := m3_ask) dX3_ask_81 rfl rfl ?_
            refine r_callV (y := m3_ask) (As := []) (b := 12) (ci := 3) dX3_ask_82 rfl k3_dropAsking lm_X3_307 rfl ⟨by decide, by decide⟩ (so_12 hm7) (by decide) rfl (Nat.le_of_ble_eq_true rfl) (C.mono h ?_)
            rintro _ m13 ⟨rfl, hm14, h⟩
            refine ⟨none, rfl, ?_⟩
            refine r_aload_n (y := m3_ask) dX3_ask_85 rfl rfl ?_
            refine g_X3_12 (y := m3_ask) rfl dX3_ask_86 hm14 ?_
            refine r_iload_n (y := m3_ask) dX3_ask_89 rfl rfl ?_
            refine r_iconst (y := m3_ask) (v := 1) dX3_ask_90 (by decide) ?_
            refine r_iconst (y := m3_ask) (v := (-1)) dX3_ask_91 (by decide) ?_
            refine r_iconst (y := m3_ask) (v := (-1)) dX3_ask_92 (by decide) ?_
            refine r_callVN (y := m3_ask) (As := [(.int a2), (.int 1), (.int (-1)), (.int (-1))]) (b := 13) (ci := 10) dX3_ask_93 rfl k10_becomeData lm_X3_148 rfl ⟨by decide, by decide⟩ (so_13 hm14) (by decide) rfl (Nat.le_of_ble_eq_true rfl) (C.mono h ?_)
            rintro _ m15 ⟨rfl, hm16, h⟩
            refine ⟨none, rfl, ?_⟩
            exact r_ret (y := m3_ask) dX3_ask_96 rfl h
          · have h := h.2 hc12
            refine r_aload_n (y := m3_ask) dX3_ask_69 rfl rfl ?_
            refine r_bipush (y := m3_ask) (v := 6) dX3_ask_70 (by decide) ?_
            refine r_iload_n (y := m3_ask) dX3_ask_72 rfl rfl ?_
            refine r_iload_n (y := m3_ask) dX3_ask_73 rfl rfl ?_
            refine r_iload_n (y := m3_ask) dX3_ask_74 rfl rfl ?_
            refine r_callV (y := m3_ask) (As := [(.int 6), (.int a0), (.int a1), (.int a2)]) (b := 12) (ci := 3) dX3_ask_75 rfl k3_pushPairs lm_X3_300 rfl ⟨by decide, by decide⟩ (so_12 hm7) (by decide) rfl (Nat.le_of_ble_eq_true rfl) (C.mono h ?_)
            rintro _ m17 ⟨rfl, hm18, h⟩
            refine ⟨none, rfl, ?_⟩
            refine r_goto (y := m3_ask) (tgt := 96) dX3_ask_78 (by decide) ?_
            exact r_ret (y := m3_ask) dX3_ask_96 rfl h
        · have h := h.2 hc9
          exact r_ret (y := m3_ask) dX3_ask_47 rfl h
      · have h := h.2 hc5
        refine r_aload_n (y := m3_ask) dX3_ask_34 rfl rfl ?_
        refine r_iconst (y := m3_ask) (v := 2) dX3_ask_35 (by decide) ?_
        refine p_X3_57 (y := m3_ask) rfl dX3_ask_36 hm ?_
        exact r_ret (y := m3_ask) dX3_ask_39 rfl h
  · have h := h.2 hc1
    exact r_ret (y := m3_ask) dX3_ask_5 rfl h
set_option maxHeartbeats 4000000 in
set_option maxRecDepth 100000 in
theorem w3_dropAsking {m : Mm} {K : Option Value ⊕ String → Mm → Prop} (hm : St m)   (h : V m3_dropAsking 8 [some (.ref 12), some (.int (mI m 23 4))] [] m K) : V m3_dropAsking 0 [some (.ref 12), none] [] m K := by
  refine r_aload_n (y := m3_dropAsking) dX3_dropAsking_0 rfl rfl ?_
  refine g_X3_21 (y := m3_dropAsking) rfl dX3_dropAsking_1 hm ?_
  refine g_X3_97 (y := m3_dropAsking) rfl dX3_dropAsking_4 hm ?_
  refine r_istore_n (y := m3_dropAsking) (L' := [some (.ref 12), some (.int (mI m 23 4))]) dX3_dropAsking_7 rfl (Nat.le_of_ble_eq_true rfl) rfl ?_
  exact h
set_option maxHeartbeats 4000000 in
set_option maxRecDepth 100000 in
theorem w3_dropAsking_8 {m : Mm} {K : Option Value ⊕ String → Mm → Prop} (hm : St m) {v1 : Int32}  (h : ((v1 ≤ 0 → ((v1 ≤ 0 → K (.inl none) (mSetI m 23 4 v1)) ∧ (¬ v1 ≤ 0 → vp_in (v1 - 1) 5000 ∧ ((¬ (mI m 24 (Int32.toNatClampNeg (v1 - 1))) = 7 → K (.inl none) (mSetI m 23 4 v1)) ∧ ((mI m 24 (Int32.toNatClampNeg (v1 - 1))) = 7 → K (.inl none) (mSetI m 23 4 (v1 + (-1)))))))) ∧ (¬ v1 ≤ 0 → vp_in (v1 - 1) 5000 ∧ ((¬ (mI m 24 (Int32.toNatClampNeg (v1 - 1))) = 6 → ((v1 ≤ 0 → K (.inl none) (mSetI m 23 4 v1)) ∧ (¬ v1 ≤ 0 → vp_in (v1 - 1) 5000 ∧ ((¬ (mI m 24 (Int32.toNatClampNeg (v1 - 1))) = 7 → K (.inl none) (mSetI m 23 4 v1)) ∧ ((mI m 24 (Int32.toNatClampNeg (v1 - 1))) = 7 → K (.inl none) (mSetI m 23 4 (v1 + (-1)))))))) ∧ ((mI m 24 (Int32.toNatClampNeg (v1 - 1))) = 6 → V m3_dropAsking 8 [some (.ref 12), some (.int (v1 + (-1)))] [] m K))))) : V m3_dropAsking 8 [some (.ref 12), some (.int v1)] [] m K := by
  refine r_iload_n (y := m3_dropAsking) dX3_dropAsking_8 rfl rfl ?_
  refine r_if_le (y := m3_dropAsking) (tgt := 34) dX3_dropAsking_9 (by decide) (fun hc1 => ?_) (fun hc1 => ?_)
  · have h := h.1 hc1
    refine r_iload_n (y := m3_dropAsking) dX3_dropAsking_34 rfl rfl ?_
    refine r_if_le (y := m3_dropAsking) (tgt := 57) dX3_dropAsking_35 (by decide) (fun hc2 => ?_) (fun hc2 => ?_)
    · have h := h.1 hc2
      refine r_aload_n (y := m3_dropAsking) dX3_dropAsking_57 rfl rfl ?_
      refine g_X3_21 (y := m3_dropAsking) rfl dX3_dropAsking_58 hm ?_
      refine r_iload_n (y := m3_dropAsking) dX3_dropAsking_61 rfl rfl ?_
      refine p_X3_97 (y := m3_dropAsking) rfl dX3_dropAsking_62 hm ?_
      exact r_ret (y := m3_dropAsking) dX3_dropAsking_65 rfl h
    · have h := h.2 hc2
      refine r_aload_n (y := m3_dropAsking) dX3_dropAsking_38 rfl rfl ?_
      refine g_X3_21 (y := m3_dropAsking) rfl dX3_dropAsking_39 hm ?_
      refine g_X3_120 (y := m3_dropAsking) rfl dX3_dropAsking_42 hm ?_
      refine r_iload_n (y := m3_dropAsking) dX3_dropAsking_45 rfl rfl ?_
      refine r_iconst (y := m3_dropAsking) (v := 1) dX3_dropAsking_46 (by decide) ?_
      refine r_isub (y := m3_dropAsking) dX3_dropAsking_47 ?_
      obtain ⟨hb3, h⟩ := h
      refine r_iald (y := m3_dropAsking) (n := 5000) dX3_dropAsking_48 (sa_24 hm) hb3 ?_
      refine r_bipush (y := m3_dropAsking) (v := 7) dX3_dropAsking_49 (by decide) ?_
      refine r_icmp_ne (y := m3_dropAsking) (tgt := 57) dX3_dropAsking_51 (by decide) (fun hc4 => ?_) (fun hc4 => ?_)
      · have h := h.1 hc4
        refine r_aload_n (y := m3_dropAsking) dX3_dropAsking_57 rfl rfl ?_
        refine g_X3_21 (y := m3_dropAsking) rfl dX3_dropAsking_58 hm ?_
        refine r_iload_n (y := m3_dropAsking) dX3_dropAsking_61 rfl rfl ?_
        refine p_X3_97 (y := m3_dropAsking) rfl dX3_dropAsking_62 hm ?_
        exact r_ret (y := m3_dropAsking) dX3_dropAsking_65 rfl h
      · have h := h.2 hc4
        refine r_iinc (y := m3_dropAsking) (v := (v1 + (-1))) (L' := [some (.ref 12), some (.int (v1 + (-1)))]) dX3_dropAsking_54 rfl (by rfl) rfl ?_
        refine r_aload_n (y := m3_dropAsking) dX3_dropAsking_57 rfl rfl ?_
        refine g_X3_21 (y := m3_dropAsking) rfl dX3_dropAsking_58 hm ?_
        refine r_iload_n (y := m3_dropAsking) dX3_dropAsking_61 rfl rfl ?_
        refine p_X3_97 (y := m3_dropAsking) rfl dX3_dropAsking_62 hm ?_
        exact r_ret (y := m3_dropAsking) dX3_dropAsking_65 rfl h
  · have h := h.2 hc1
    refine r_aload_n (y := m3_dropAsking) dX3_dropAsking_12 rfl rfl ?_
    refine g_X3_21 (y := m3_dropAsking) rfl dX3_dropAsking_13 hm ?_
    refine g_X3_120 (y := m3_dropAsking) rfl dX3_dropAsking_16 hm ?_
    refine r_iload_n (y := m3_dropAsking) dX3_dropAsking_19 rfl rfl ?_
    refine r_iconst (y := m3_dropAsking) (v := 1) dX3_dropAsking_20 (by decide) ?_
    refine r_isub (y := m3_dropAsking) dX3_dropAsking_21 ?_
    obtain ⟨hb5, h⟩ := h
    refine r_iald (y := m3_dropAsking) (n := 5000) dX3_dropAsking_22 (sa_24 hm) hb5 ?_
    refine r_bipush (y := m3_dropAsking) (v := 6) dX3_dropAsking_23 (by decide) ?_
    refine r_icmp_ne (y := m3_dropAsking) (tgt := 34) dX3_dropAsking_25 (by decide) (fun hc6 => ?_) (fun hc6 => ?_)
    · have h := h.1 hc6
      refine r_iload_n (y := m3_dropAsking) dX3_dropAsking_34 rfl rfl ?_
      refine r_if_le (y := m3_dropAsking) (tgt := 57) dX3_dropAsking_35 (by decide) (fun hc7 => ?_) (fun hc7 => ?_)
      · have h := h.1 hc7
        refine r_aload_n (y := m3_dropAsking) dX3_dropAsking_57 rfl rfl ?_
        refine g_X3_21 (y := m3_dropAsking) rfl dX3_dropAsking_58 hm ?_
        refine r_iload_n (y := m3_dropAsking) dX3_dropAsking_61 rfl rfl ?_
        refine p_X3_97 (y := m3_dropAsking) rfl dX3_dropAsking_62 hm ?_
        exact r_ret (y := m3_dropAsking) dX3_dropAsking_65 rfl h
      · have h := h.2 hc7
        refine r_aload_n (y := m3_dropAsking) dX3_dropAsking_38 rfl rfl ?_
        refine g_X3_21 (y := m3_dropAsking) rfl dX3_dropAsking_39 hm ?_
        refine g_X3_120 (y := m3_dropAsking) rfl dX3_dropAsking_42 hm ?_
        refine r_iload_n (y := m3_dropAsking) dX3_dropAsking_45 rfl rfl ?_
        refine r_iconst (y := m3_dropAsking) (v := 1) dX3_dropAsking_46 (by decide) ?_
        refine r_isub (y := m3_dropAsking) dX3_dropAsking_47 ?_
        obtain ⟨hb8, h⟩ := h
        refine r_iald (y := m3_dropAsking) (n := 5000) dX3_dropAsking_48 (sa_24 hm) hb8 ?_
        refine r_bipush (y := m3_dropAsking) (v := 7) dX3_dropAsking_49 (by decide) ?_
        refine r_icmp_ne (y := m3_dropAsking) (tgt := 57) dX3_dropAsking_51 (by decide) (fun hc9 => ?_) (fun hc9 => ?_)
        · have h := h.1 hc9
          refine r_aload_n (y := m3_dropAsking) dX3_dropAsking_57 rfl rfl ?_
          refine g_X3_21 (y := m3_dropAsking) rfl dX3_dropAsking_58 hm ?_
          refine r_iload_n (y := m3_dropAsking) dX3_dropAsking_61 rfl rfl ?_
          refine p_X3_97 (y := m3_dropAsking) rfl dX3_dropAsking_62 hm ?_
          exact r_ret (y := m3_dropAsking) dX3_dropAsking_65 rfl h
        · have h := h.2 hc9
          refine r_iinc (y := m3_dropAsking) (v := (v1 + (-1))) (L' := [some (.ref 12), some (.int (v1 + (-1)))]) dX3_dropAsking_54 rfl (by rfl) rfl ?_
          refine r_aload_n (y := m3_dropAsking) dX3_dropAsking_57 rfl rfl ?_
          refine g_X3_21 (y := m3_dropAsking) rfl dX3_dropAsking_58 hm ?_
          refine r_iload_n (y := m3_dropAsking) dX3_dropAsking_61 rfl rfl ?_
          refine p_X3_97 (y := m3_dropAsking) rfl dX3_dropAsking_62 hm ?_
          exact r_ret (y := m3_dropAsking) dX3_dropAsking_65 rfl h
    · have h := h.2 hc6
      refine r_iinc (y := m3_dropAsking) (v := (v1 + (-1))) (L' := [some (.ref 12), some (.int (v1 + (-1)))]) dX3_dropAsking_28 rfl (by rfl) rfl ?_
      refine r_goto (y := m3_dropAsking) (tgt := 8) dX3_dropAsking_31 (by decide) ?_
      exact h
set_option maxHeartbeats 4000000 in
set_option maxRecDepth 100000 in
theorem w3_startSome {m : Mm} {K : Option Value ⊕ String → Mm → Prop} (hm : St m) {a0 : Int32}  (h : ((((mI m 12 9) + 1) < 102 → vp_in ((mI m 12 9) + 1) 102 ∧ C m9_push_ [(.ref 23), (.int 8), (.int a0)] (mSetI (mSetI (mSetI (mSetI (mSetI m 12 9 ((mI m 12 9) + 1)) (235 + 3 * (Int32.toNatClampNeg ((mI m 12 9) + 1))) 5 a0) (235 + 3 * (Int32.toNatClampNeg ((mI m 12 9) + 1))) 7 (mI (mSetI (mSetI m 12 9 ((mI m 12 9) + 1)) (235 + 3 * (Int32.toNatClampNeg ((mI m 12 9) + 1))) 5 a0) 23 4)) (235 + 3 * (Int32.toNatClampNeg ((mI m 12 9) + 1))) 6 0) (235 + 3 * (Int32.toNatClampNeg ((mI m 12 9) + 1))) 2 0) (fun o m4 => o = .inl none ∧ St m4 ∧ K (.inl none) m4)) ∧ (¬ ((mI m 12 9) + 1) < 102 → K (.inl none) (mSetI m 12 12 3)))) : V m3_startSome 0 [some (.ref 12), some (.int a0), none] [] m K := by
  refine r_aload_n (y := m3_startSome) dX3_startSome_0 rfl rfl ?_
  refine g_X3_48 (y := m3_startSome) rfl dX3_startSome_1 hm ?_
  refine r_iconst (y := m3_startSome) (v := 1) dX3_startSome_4 (by decide) ?_
  refine r_iadd (y := m3_startSome) dX3_startSome_5 ?_
  refine r_bipush (y := m3_startSome) (v := 102) dX3_startSome_6 (by decide) ?_
  refine r_icmp_lt (y := m3_startSome) (tgt := 17) dX3_startSome_8 (by decide) (fun hc1 => ?_) (fun hc1 => ?_)
  · have h := h.1 hc1
    refine r_aload_n (y := m3_startSome) dX3_startSome_17 rfl rfl ?_
    refine r_dup_r (y := m3_startSome) dX3_startSome_18 ?_
    refine g_X3_48 (y := m3_startSome) rfl dX3_startSome_19 hm ?_
    refine r_iconst (y := m3_startSome) (v := 1) dX3_startSome_22 (by decide) ?_
    refine r_iadd (y := m3_startSome) dX3_startSome_23 ?_
    refine p_X3_48 (y := m3_startSome) rfl dX3_startSome_24 hm ?_
    refine r_aload_n (y := m3_startSome) dX3_startSome_27 rfl rfl ?_
    refine g_X3_33 (y := m3_startSome) rfl dX3_startSome_28 (St.i hm) ?_
    refine r_aload_n (y := m3_startSome) dX3_startSome_31 rfl rfl ?_
    refine g_X3_48 (y := m3_startSome) rfl dX3_startSome_32 (St.i hm) ?_
    refine V.top (b := ((mI m 12 9) + 1)) (by first | rfl | simp [mI_set, mI_setR]) ?_
    obtain ⟨hb2, h⟩ := h
    have hl3 := vp_lt hb2
    refine r_aald (y := m3_startSome) (n := 102) (r := some (235 + 3 * (Int32.toNatClampNeg ((mI m 12 9) + 1)))) dX3_startSome_35 (sa_29 (St.i hm)) (by decide) (by decide) hb2 (sr_lv (St.i hm) hl3) ?_
    refine r_astore_n (y := m3_startSome) (L' := [some (.ref 12), some (.int a0), some (.ref (235 + 3 * (Int32.toNatClampNeg ((mI m 12 9) + 1))))]) dX3_startSome_36 rfl (Nat.le_of_ble_eq_true rfl) rfl ?_
    refine r_aload_n (y := m3_startSome) dX3_startSome_37 rfl rfl ?_
    refine r_iload_n (y := m3_startSome) dX3_startSome_38 rfl rfl ?_
    refine p_X3_180 (y := m3_startSome) (i := (Int32.toNatClampNeg ((mI m 12 9) + 1))) rfl dX3_startSome_39 (St.i hm) hl3 ?_
    refine r_aload_n (y := m3_startSome) dX3_startSome_42 rfl rfl ?_
    refine r_aload_n (y := m3_startSome) dX3_startSome_43 rfl rfl ?_
    refine g_X3_21 (y := m3_startSome) rfl dX3_startSome_44 (St.i (St.i hm)) ?_
    refine g_X3_97 (y := m3_startSome) rfl dX3_startSome_47 (St.i (St.i hm)) ?_
    refine p_X3_173 (y := m3_startSome) (i := (Int32.toNatClampNeg ((mI m 12 9) + 1))) rfl dX3_startSome_50 (St.i (St.i hm)) hl3 ?_
    refine r_aload_n (y := m3_startSome) dX3_startSome_53 rfl rfl ?_
    refine r_iconst (y := m3_startSome) (v := 0) dX3_startSome_54 (by decide) ?_
    refine p_X3_183 (y := m3_startSome) (i := (Int32.toNatClampNeg ((mI m 12 9) + 1))) rfl dX3_startSome_55 (St.i (St.i (St.i hm))) hl3 ?_
    refine r_aload_n (y := m3_startSome) dX3_startSome_58 rfl rfl ?_
    refine r_iconst (y := m3_startSome) (v := 0) dX3_startSome_59 (by decide) ?_
    refine p_X3_164 (y := m3_startSome) (i := (Int32.toNatClampNeg ((mI m 12 9) + 1))) rfl dX3_startSome_60 (St.i (St.i (St.i (St.i hm)))) hl3 ?_
    refine r_aload_n (y := m3_startSome) dX3_startSome_63 rfl rfl ?_
    refine g_X3_21 (y := m3_startSome) rfl dX3_startSome_64 (St.i (St.i (St.i (St.i (St.i hm))))) ?_
    refine r_bipush (y := m3_startSome) (v := 8) dX3_startSome_67 (by decide) ?_
    refine r_iload_n (y := m3_startSome) dX3_startSome_69 rfl rfl ?_
    refine r_callVN (y := m3_startSome) (As := [(.int 8), (.int a0)]) (b := 23) (ci := 9) dX3_startSome_70 rfl k9_push_ lm_X3_93 rfl ⟨by decide, by decide⟩ (so_23 (St.i (St.i (St.i (St.i (St.i hm)))))) (by decide) rfl (Nat.le_of_ble_eq_true rfl) (C.mono h ?_)
    rintro _ m4 ⟨rfl, hm5, h⟩
    refine ⟨none, rfl, ?_⟩
    exact r_ret (y := m3_startSome) dX3_startSome_73 rfl h
  · have h := h.2 hc1
    refine r_aload_n (y := m3_startSome) dX3_startSome_11 rfl rfl ?_
    refine r_iconst (y := m3_startSome) (v := 3) dX3_startSome_12 (by decide) ?_
    refine p_X3_57 (y := m3_startSome) rfl dX3_startSome_13 hm ?_
    exact r_ret (y := m3_startSome) dX3_startSome_16 rfl h
set_option maxHeartbeats 4000000 in
set_option maxRecDepth 100000 in
theorem w3_startRunWithin {m : Mm} {K : Option Value ⊕ String → Mm → Prop} (hm : St m) {ie0 : Nat} (hie0 : ie0 < 102) (h : C m3_doStep [(.ref 12)] m (fun o m1 => ∃ x3 : Int32, o = .inl (some (.int x3)) ∧ St m1 ∧ ((¬ x3 = 0 → C m9_push_ [(.ref 23), (.int 9), (.int (mI (mSetI m1 12 10 ((mI m1 12 10) + 1)) (235 + 3 * ie0) 5))] (mSetI (mSetI (mSetI (mSetI m1 12 10 ((mI m1 12 10) + 1)) (235 + 3 * ie0) 4 ((mI m1 12 10) + 1)) (235 + 3 * ie0) 6 ((mI (mSetI m1 12 10 ((mI m1 12 10) + 1)) (235 + 3 * ie0) 6) + 1)) (235 + 3 * ie0) 3 0) (fun o m5 => o = .inl none ∧ St m5 ∧ vp_in (mI m5 (235 + 3 * ie0) 5) 3500 ∧ vp_in (mI m5 (235 + 3 * ie0) 5) 3500 ∧ vp_in (mI m5 18 (Int32.toNatClampNeg (mI m5 (235 + 3 * ie0) 5))) 102 ∧ ∃ q11 : Nat, mR m5 (31 + 2 * (Int32.toNatClampNeg (mI m5 18 (Int32.toNatClampNeg (mI m5 (235 + 3 * ie0) 5))))) 3 = some q11 ∧ C m3_makeThings [(.ref 12), (.ref q11), (.int (mI m5 15 (Int32.toNatClampNeg (mI m5 (235 + 3 * ie0) 5)))), (.int (mI m5 18 (Int32.toNatClampNeg (mI m5 (235 + 3 * ie0) 5)))), (.int (mI m5 12 9))] m5 (fun o m13 => ∃ x15 : Int32, o = .inl (some (.int x15)) ∧ St m13 ∧ C m9_push_ [(.ref 23), (.int 1), (.int x15)] m13 (fun o m16 => o = .inl none ∧ St m16 ∧ K (.inl none) m16)))) ∧ (x3 = 0 → K (.inl none) m1)))) : V m3_startRunWithin 0 [some (.ref 12), some (.ref (235 + 3 * ie0)), none, none] [] m K := by
  refine r_aload_n (y := m3_startRunWithin) dX3_startRunWithin_0 rfl rfl ?_
  refine r_callV (y := m3_startRunWithin) (As := []) (b := 12) (ci := 3) dX3_startRunWithin_1 rfl k3_doStep lm_X3_267 rfl ⟨by decide, by decide⟩ (so_12 hm) (by decide) rfl (Nat.le_of_ble_eq_true rfl) (C.mono h ?_)
  rintro _ m1 ⟨x3, rfl, hm2, h⟩
  refine ⟨_, rfl, ?_⟩
  refine r_if_ne (y := m3_startRunWithin) (tgt := 8) dX3_startRunWithin_4 (by decide) (fun hc4 => ?_) (fun hc4 => ?_)
  · have h := h.1 hc4
    refine r_aload_n (y := m3_startRunWithin) dX3_startRunWithin_8 rfl rfl ?_
    refine r_dup_r (y := m3_startRunWithin) dX3_startRunWithin_9 ?_
    refine g_X3_51 (y := m3_startRunWithin) rfl dX3_startRunWithin_10 hm2 ?_
    refine r_iconst (y := m3_startRunWithin) (v := 1) dX3_startRunWithin_13 (by decide) ?_
    refine r_iadd (y := m3_startRunWithin) dX3_startRunWithin_14 ?_
    refine p_X3_51 (y := m3_startRunWithin) rfl dX3_startRunWithin_15 hm2 ?_
    refine r_aload_n (y := m3_startRunWithin) dX3_startRunWithin_18 rfl rfl ?_
    refine r_aload_n (y := m3_startRunWithin) dX3_startRunWithin_19 rfl rfl ?_
    refine g_X3_51 (y := m3_startRunWithin) rfl dX3_startRunWithin_20 (St.i hm2) ?_
    refine V.top (b := ((mI m1 12 10) + 1)) (by first | rfl | simp [mI_set, mI_setR]) ?_
    refine p_X3_108 (y := m3_startRunWithin) (i := ie0) rfl dX3_startRunWithin_23 (St.i hm2) hie0 ?_
    refine r_aload_n (y := m3_startRunWithin) dX3_startRunWithin_26 rfl rfl ?_
    refine r_dup_r (y := m3_startRunWithin) dX3_startRunWithin_27 ?_
    refine g_X3_183 (y := m3_startRunWithin) (i := ie0) rfl dX3_startRunWithin_28 (St.i (St.i hm2)) hie0 ?_
    refine V.top (b := (mI (mSetI m1 12 10 ((mI m1 12 10) + 1)) (235 + 3 * ie0) 6)) (by first | rfl | simp [mI_set, mI_setR]) ?_
    refine r_iconst (y := m3_startRunWithin) (v := 1) dX3_startRunWithin_31 (by decide) ?_
    refine r_iadd (y := m3_startRunWithin) dX3_startRunWithin_32 ?_
    refine p_X3_183 (y := m3_startRunWithin) (i := ie0) rfl dX3_startRunWithin_33 (St.i (St.i hm2)) hie0 ?_
    refine r_aload_n (y := m3_startRunWithin) dX3_startRunWithin_36 rfl rfl ?_
    refine r_iconst (y := m3_startRunWithin) (v := 0) dX3_startRunWithin_37 (by decide) ?_
    refine p_X3_105 (y := m3_startRunWithin) (i := ie0) rfl dX3_startRunWithin_38 (St.i (St.i (St.i hm2))) hie0 ?_
    refine r_aload_n (y := m3_startRunWithin) dX3_startRunWithin_41 rfl rfl ?_
    refine g_X3_21 (y := m3_startRunWithin) rfl dX3_startRunWithin_42 (St.i (St.i (St.i (St.i hm2)))) ?_
    refine r_bipush (y := m3_startRunWithin) (v := 9) dX3_startRunWithin_45 (by decide) ?_
    refine r_aload_n (y := m3_startRunWithin) dX3_startRunWithin_47 rfl rfl ?_
    refine g_X3_180 (y := m3_startRunWithin) (i := ie0) rfl dX3_startRunWithin_48 (St.i (St.i (St.i (St.i hm2)))) hie0 ?_
    refine V.top (b := (mI (mSetI m1 12 10 ((mI m1 12 10) + 1)) (235 + 3 * ie0) 5)) (by first | rfl | simp [mI_set, mI_setR]) ?_
    refine r_callVN (y := m3_startRunWithin) (As := [(.int 9), (.int (mI (mSetI m1 12 10 ((mI m1 12 10) + 1)) (235 + 3 * ie0) 5))]) (b := 23) (ci := 9) dX3_startRunWithin_51 rfl k9_push_ lm_X3_93 rfl ⟨by decide, by decide⟩ (so_23 (St.i (St.i (St.i (St.i hm2))))) (by decide) rfl (Nat.le_of_ble_eq_true rfl) (C.mono h ?_)
    rintro _ m5 ⟨rfl, hm6, h⟩
    refine ⟨none, rfl, ?_⟩
    refine r_aload_n (y := m3_startRunWithin) dX3_startRunWithin_54 rfl rfl ?_
    refine g_X3_12 (y := m3_startRunWithin) rfl dX3_startRunWithin_55 hm6 ?_
    refine g_X3_270 (y := m3_startRunWithin) rfl dX3_startRunWithin_58 hm6 ?_
    refine r_aload_n (y := m3_startRunWithin) dX3_startRunWithin_61 rfl rfl ?_
    refine g_X3_180 (y := m3_startRunWithin) (i := ie0) rfl dX3_startRunWithin_62 hm6 hie0 ?_
    obtain ⟨hb7, h⟩ := h
    refine r_iald (y := m3_startRunWithin) (n := 3500) dX3_startRunWithin_65 (sa_18 hm6) hb7 ?_
    refine r_istore_n (y := m3_startRunWithin) (L' := [some (.ref 12), some (.ref (235 + 3 * ie0)), some (.int (mI m5 18 (Int32.toNatClampNeg (mI m5 (235 + 3 * ie0) 5)))), none]) dX3_startRunWithin_66 rfl (Nat.le_of_ble_eq_true rfl) rfl ?_
    refine r_aload_n (y := m3_startRunWithin) dX3_startRunWithin_67 rfl rfl ?_
    refine g_X3_12 (y := m3_startRunWithin) rfl dX3_startRunWithin_68 hm6 ?_
    refine g_X3_247 (y := m3_startRunWithin) rfl dX3_startRunWithin_71 hm6 ?_
    refine r_aload_n (y := m3_startRunWithin) dX3_startRunWithin_74 rfl rfl ?_
    refine g_X3_180 (y := m3_startRunWithin) (i := ie0) rfl dX3_startRunWithin_75 hm6 hie0 ?_
    obtain ⟨hb8, h⟩ := h
    refine r_iald (y := m3_startRunWithin) (n := 3500) dX3_startRunWithin_78 (sa_15 hm6) hb8 ?_
    refine r_istore_n (y := m3_startRunWithin) (L' := [some (.ref 12), some (.ref (235 + 3 * ie0)), some (.int (mI m5 18 (Int32.toNatClampNeg (mI m5 (235 + 3 * ie0) 5)))), some (.int (mI m5 15 (Int32.toNatClampNeg (mI m5 (235 + 3 * ie0) 5))))]) dX3_startRunWithin_79 rfl (Nat.le_of_ble_eq_true rfl) rfl ?_
    refine r_aload_n (y := m3_startRunWithin) dX3_startRunWithin_80 rfl rfl ?_
    refine g_X3_21 (y := m3_startRunWithin) rfl dX3_startRunWithin_81 hm6 ?_
    refine r_iconst (y := m3_startRunWithin) (v := 1) dX3_startRunWithin_84 (by decide) ?_
    refine r_aload_n (y := m3_startRunWithin) dX3_startRunWithin_85 rfl rfl ?_
    refine r_aload_n (y := m3_startRunWithin) dX3_startRunWithin_86 rfl rfl ?_
    refine g_X3_27 (y := m3_startRunWithin) rfl dX3_startRunWithin_87 hm6 ?_
    refine r_iload_n (y := m3_startRunWithin) dX3_startRunWithin_90 rfl rfl ?_
    obtain ⟨hb9, h⟩ := h
    have hl10 := vp_lt hb9
    refine r_aald (y := m3_startRunWithin) (n := 102) (r := some (31 + 2 * (Int32.toNatClampNeg (mI m5 18 (Int32.toNatClampNeg (mI m5 (235 + 3 * ie0) 5)))))) dX3_startRunWithin_91 (sa_28 hm6) (by decide) (by decide) hb9 (sr_sc hm6 hl10) ?_
    obtain ⟨q11, hq12, h⟩ := h
    refine g_X3_195 (y := m3_startRunWithin) (i := (Int32.toNatClampNeg (mI m5 18 (Int32.toNatClampNeg (mI m5 (235 + 3 * ie0) 5))))) rfl dX3_startRunWithin_92 hm6 hl10 (q := some q11) hq12 ?_
    refine r_iload_n (y := m3_startRunWithin) dX3_startRunWithin_95 rfl rfl ?_
    refine r_iload_n (y := m3_startRunWithin) dX3_startRunWithin_96 rfl rfl ?_
    refine r_aload_n (y := m3_startRunWithin) dX3_startRunWithin_97 rfl rfl ?_
    refine g_X3_48 (y := m3_startRunWithin) rfl dX3_startRunWithin_98 hm6 ?_
    refine r_callV (y := m3_startRunWithin) (As := [(.ref q11), (.int (mI m5 15 (Int32.toNatClampNeg (mI m5 (235 + 3 * ie0) 5)))), (.int (mI m5 18 (Int32.toNatClampNeg (mI m5 (235 + 3 * ie0) 5)))), (.int (mI m5 12 9))]) (b := 12) (ci := 3) dX3_startRunWithin_101 rfl k3_makeThings lm_X3_89 rfl ⟨by decide, by decide⟩ (so_12 hm6) (by decide) rfl (Nat.le_of_ble_eq_true rfl) (C.mono h ?_)
    rintro _ m13 ⟨x15, rfl, hm14, h⟩
    refine ⟨_, rfl, ?_⟩
    refine r_callVN (y := m3_startRunWithin) (As := [(.int 1), (.int x15)]) (b := 23) (ci := 9) dX3_startRunWithin_104 rfl k9_push_ lm_X3_93 rfl ⟨by decide, by decide⟩ (so_23 hm14) (by decide) rfl (Nat.le_of_ble_eq_true rfl) (C.mono h ?_)
    rintro _ m16 ⟨rfl, hm17, h⟩
    refine ⟨none, rfl, ?_⟩
    exact r_ret (y := m3_startRunWithin) dX3_startRunWithin_107 rfl h
  · have h := h.2 hc4
    exact r_ret (y := m3_startRunWithin) dX3_startRunWithin_7 rfl h
set_option maxHeartbeats 4000000 in
set_option maxRecDepth 100000 in
theorem w3_endRunWithin {m : Mm} {K : Option Value ⊕ String → Mm → Prop} (hm : St m)   (h : vp_in (mI m 12 9) 102 ∧ C m10_becomeData [(.ref 13), (.int (mI m (235 + 3 * (Int32.toNatClampNeg (mI m 12 9))) 5)), (.int 1), (.int (-1)), (.int (-1))] m (fun o m3 => o = .inl none ∧ St m3 ∧ K (.inl none) (mSetI m3 12 9 ((mI m3 12 9) - 1)))) : V m3_endRunWithin 0 [some (.ref 12)] [] m K := by
  refine r_aload_n (y := m3_endRunWithin) dX3_endRunWithin_0 rfl rfl ?_
  refine g_X3_12 (y := m3_endRunWithin) rfl dX3_endRunWithin_1 hm ?_
  refine r_aload_n (y := m3_endRunWithin) dX3_endRunWithin_4 rfl rfl ?_
  refine g_X3_33 (y := m3_endRunWithin) rfl dX3_endRunWithin_5 hm ?_
  refine r_aload_n (y := m3_endRunWithin) dX3_endRunWithin_8 rfl rfl ?_
  refine g_X3_48 (y := m3_endRunWithin) rfl dX3_endRunWithin_9 hm ?_
  obtain ⟨hb1, h⟩ := h
  have hl2 := vp_lt hb1
  refine r_aald (y := m3_endRunWithin) (n := 102) (r := some (235 + 3 * (Int32.toNatClampNeg (mI m 12 9)))) dX3_endRunWithin_12 (sa_29 hm) (by decide) (by decide) hb1 (sr_lv hm hl2) ?_
  refine g_X3_180 (y := m3_endRunWithin) (i := (Int32.toNatClampNeg (mI m 12 9))) rfl dX3_endRunWithin_13 hm hl2 ?_
  refine r_iconst (y := m3_endRunWithin) (v := 1) dX3_endRunWithin_16 (by decide) ?_
  refine r_iconst (y := m3_endRunWithin) (v := (-1)) dX3_endRunWithin_17 (by decide) ?_
  refine r_iconst (y := m3_endRunWithin) (v := (-1)) dX3_endRunWithin_18 (by decide) ?_
  refine r_callVN (y := m3_endRunWithin) (As := [(.int (mI m (235 + 3 * (Int32.toNatClampNeg (mI m 12 9))) 5)), (.int 1), (.int (-1)), (.int (-1))]) (b := 13) (ci := 10) dX3_endRunWithin_19 rfl k10_becomeData lm_X3_148 rfl ⟨by decide, by decide⟩ (so_13 hm) (by decide) rfl (Nat.le_of_ble_eq_true rfl) (C.mono h ?_)
  rintro _ m3 ⟨rfl, hm4, h⟩
  refine ⟨none, rfl, ?_⟩
  refine r_aload_n (y := m3_endRunWithin) dX3_endRunWithin_22 rfl rfl ?_
  refine r_dup_r (y := m3_endRunWithin) dX3_endRunWithin_23 ?_
  refine g_X3_48 (y := m3_endRunWithin) rfl dX3_endRunWithin_24 hm4 ?_
  refine r_iconst (y := m3_endRunWithin) (v := 1) dX3_endRunWithin_27 (by decide) ?_
  refine r_isub (y := m3_endRunWithin) dX3_endRunWithin_28 ?_
  refine p_X3_48 (y := m3_endRunWithin) rfl dX3_endRunWithin_29 hm4 ?_
  exact r_ret (y := m3_endRunWithin) dX3_endRunWithin_32 rfl h
