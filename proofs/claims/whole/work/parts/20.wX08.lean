/-! written by gen/drive.py -/
set_option maxHeartbeats 4000000 in
set_option maxRecDepth 100000 in
theorem w8_make {m : Mm} {K : Option Value ⊕ String → Mm → Prop} (hm : St m) {e0 ne0 : Nat} {a1 : Int32} {a2 : Int32} (he0 : isExp m e0 ne0) (h : C m8_clear [(.ref 541)] m (fun o m1 => o = .inl none ∧ St m1 ∧ C m8_addRow [(.ref 541), (.int 0), (.int 0), (.int 0)] m1 (fun o m3 => o = .inl none ∧ St m3 ∧ V m8_make 17 [some (.ref 541), some (.ref e0), some (.int a1), some (.int a2), some (.int a2), some (.int 0), none, none, none] [] m3 K))) : V m8_make 0 [some (.ref 541), some (.ref e0), some (.int a1), some (.int a2), none, none, none, none, none] [] m K := by
  refine r_aload_n (y := m8_make) dX8_make_0 rfl rfl ?_
  refine r_callV (y := m8_make) (As := []) (b := 541) (ci := 8) dX8_make_1 rfl k8_clear lm_X8_51 rfl ⟨by decide, by decide⟩ (so_541 hm) (by decide) rfl (Nat.le_of_ble_eq_true rfl) (C.mono h ?_)
  rintro _ m1 ⟨rfl, hm2, h⟩
  refine ⟨none, rfl, ?_⟩
  refine r_aload_n (y := m8_make) dX8_make_4 rfl rfl ?_
  refine r_iconst (y := m8_make) (v := 0) dX8_make_5 (by decide) ?_
  refine r_iconst (y := m8_make) (v := 0) dX8_make_6 (by decide) ?_
  refine r_iconst (y := m8_make) (v := 0) dX8_make_7 (by decide) ?_
  refine r_callV (y := m8_make) (As := [(.int 0), (.int 0), (.int 0)]) (b := 541) (ci := 8) dX8_make_8 rfl k8_addRow lm_X8_54 rfl ⟨by decide, by decide⟩ (so_541 hm2) (by decide) rfl (Nat.le_of_ble_eq_true rfl) (C.mono h ?_)
  rintro _ m3 ⟨rfl, hm4, h⟩
  refine ⟨none, rfl, ?_⟩
  refine r_iload_n (y := m8_make) dX8_make_11 rfl rfl ?_
  refine r_istore (y := m8_make) (L' := [some (.ref 541), some (.ref e0), some (.int a1), some (.int a2), some (.int a2), none, none, none, none]) dX8_make_12 (Nat.le_of_ble_eq_true rfl) rfl ?_
  refine r_iconst (y := m8_make) (v := 0) dX8_make_14 (by decide) ?_
  refine r_istore (y := m8_make) (L' := [some (.ref 541), some (.ref e0), some (.int a1), some (.int a2), some (.int a2), some (.int 0), none, none, none]) dX8_make_15 (Nat.le_of_ble_eq_true rfl) rfl ?_
  exact h
set_option maxHeartbeats 4000000 in
set_option maxRecDepth 100000 in
theorem w8_make_17 {m : Mm} {K : Option Value ⊕ String → Mm → Prop} (hm : St m) {ee1 nn1 : Nat} {v2 : Int32} {v3 : Int32} {v4 : Int32} {v5 : Int32} (hee1 : isExp m ee1 nn1) (h : ((200 ≤ v5 → V m8_make 166 [some (.ref 541), some (.ref ee1), some (.int v2), some (.int v3), some (.int v4), some (.int v5), none, none, none] [] m K) ∧ (¬ 200 ≤ v5 → (((mI m 541 9) ≤ (mI m 541 8) → V m8_make 166 [some (.ref 541), some (.ref ee1), some (.int v2), some (.int v3), some (.int v4), some (.int v5), none, none, none] [] m K) ∧ (¬ (mI m 541 9) ≤ (mI m 541 8) → ((¬ v2 = 0 → ((¬ v2 = 2 → V m8_make 93 [some (.ref 541), some (.ref ee1), some (.int v2), some (.int v3), some (.int v4), some (.int v5), some (.int 0), none, none] [] m K) ∧ (v2 = 2 → ¬ ((mI m 541 9) - (mI m 541 8)) = 0 ∧ V m8_make 93 [some (.ref 541), some (.ref ee1), some (.int v2), some (.int v3), some (.int ((v4 * 1103515245) + 12345)), some (.int v5), some (.int (((((((v4 * 1103515245) + 12345)).toUInt32 >>> (Int32.toUInt32 (16) &&& Int32.toUInt32 31)).toInt32) &&& 65535) - ((((((v4 * 1103515245) + 12345)).toUInt32 >>> (Int32.toUInt32 (16) &&& Int32.toUInt32 31)).toInt32) &&& 65535) / ((mI m 541 9) - (mI m 541 8)) * ((mI m 541 9) - (mI m 541 8)))), none, none] [] m K))) ∧ (v2 = 0 → ((¬ v2 = 2 → V m8_make 93 [some (.ref 541), some (.ref ee1), some (.int v2), some (.int v3), some (.int v4), some (.int v5), some (.int (((mI m 541 9) - (mI m 541 8)) - 1)), none, none] [] m K) ∧ (v2 = 2 → ¬ ((mI m 541 9) - (mI m 541 8)) = 0 ∧ V m8_make 93 [some (.ref 541), some (.ref ee1), some (.int v2), some (.int v3), some (.int ((v4 * 1103515245) + 12345)), some (.int v5), some (.int (((((((v4 * 1103515245) + 12345)).toUInt32 >>> (Int32.toUInt32 (16) &&& Int32.toUInt32 31)).toInt32) &&& 65535) - ((((((v4 * 1103515245) + 12345)).toUInt32 >>> (Int32.toUInt32 (16) &&& Int32.toUInt32 31)).toInt32) &&& 65535) / ((mI m 541 9) - (mI m 541 8)) * ((mI m 541 9) - (mI m 541 8)))), none, none] [] m K))))))))) : V m8_make 17 [some (.ref 541), some (.ref ee1), some (.int v2), some (.int v3), some (.int v4), some (.int v5), none, none, none] [] m K := by
  refine r_iload (y := m8_make) dX8_make_17 rfl ?_
  refine r_sipush (y := m8_make) (v := 200) dX8_make_19 (by decide) ?_
  refine r_icmp_ge (y := m8_make) (tgt := 166) dX8_make_22 (by decide) (fun hc1 => ?_) (fun hc1 => ?_)
  · have h := h.1 hc1
    exact h
  · have h := h.2 hc1
    refine r_aload_n (y := m8_make) dX8_make_25 rfl rfl ?_
    refine g_X8_37 (y := m8_make) rfl dX8_make_26 hm ?_
    refine r_aload_n (y := m8_make) dX8_make_29 rfl rfl ?_
    refine g_X8_40 (y := m8_make) rfl dX8_make_30 hm ?_
    refine r_icmp_ge (y := m8_make) (tgt := 166) dX8_make_33 (by decide) (fun hc2 => ?_) (fun hc2 => ?_)
    · have h := h.1 hc2
      exact h
    · have h := h.2 hc2
      refine r_iload_n (y := m8_make) dX8_make_36 rfl rfl ?_
      refine r_if_ne (y := m8_make) (tgt := 54) dX8_make_37 (by decide) (fun hc3 => ?_) (fun hc3 => ?_)
      · have h := h.1 hc3
        refine r_iconst (y := m8_make) (v := 0) dX8_make_54 (by decide) ?_
        refine r_istore (y := m8_make) (L' := [some (.ref 541), some (.ref ee1), some (.int v2), some (.int v3), some (.int v4), some (.int v5), some (.int 0), none, none]) dX8_make_55 (Nat.le_of_ble_eq_true rfl) rfl ?_
        refine r_iload_n (y := m8_make) dX8_make_57 rfl rfl ?_
        refine r_iconst (y := m8_make) (v := 2) dX8_make_58 (by decide) ?_
        refine r_icmp_ne (y := m8_make) (tgt := 93) dX8_make_59 (by decide) (fun hc4 => ?_) (fun hc4 => ?_)
        · have h := h.1 hc4
          exact h
        · have h := h.2 hc4
          refine r_iload (y := m8_make) dX8_make_62 rfl ?_
          refine r_ldc (y := m8_make) (v := 1103515245) dX8_make_64 (by decide +kernel) ?_
          refine r_imul (y := m8_make) dX8_make_66 ?_
          refine r_sipush (y := m8_make) (v := 12345) dX8_make_67 (by decide) ?_
          refine r_iadd (y := m8_make) dX8_make_70 ?_
          refine r_istore (y := m8_make) (L' := [some (.ref 541), some (.ref ee1), some (.int v2), some (.int v3), some (.int ((v4 * 1103515245) + 12345)), some (.int v5), some (.int 0), none, none]) dX8_make_71 (Nat.le_of_ble_eq_true rfl) rfl ?_
          refine r_iload (y := m8_make) dX8_make_73 rfl ?_
          refine r_bipush (y := m8_make) (v := 16) dX8_make_75 (by decide) ?_
          refine r_iushr (y := m8_make) (v := (((((v4 * 1103515245) + 12345)).toUInt32 >>> (Int32.toUInt32 (16) &&& Int32.toUInt32 31)).toInt32)) dX8_make_77 rfl ?_
          refine r_ldc (y := m8_make) (v := 65535) dX8_make_78 (by decide +kernel) ?_
          refine r_iand (y := m8_make) dX8_make_80 ?_
          refine r_aload_n (y := m8_make) dX8_make_81 rfl rfl ?_
          refine g_X8_40 (y := m8_make) rfl dX8_make_82 hm ?_
          refine r_aload_n (y := m8_make) dX8_make_85 rfl rfl ?_
          refine g_X8_37 (y := m8_make) rfl dX8_make_86 hm ?_
          refine r_isub (y := m8_make) dX8_make_89 ?_
          obtain ⟨h0, h⟩ := h
          refine r_irem (y := m8_make) dX8_make_90 h0 ?_
          refine r_istore (y := m8_make) (L' := [some (.ref 541), some (.ref ee1), some (.int v2), some (.int v3), some (.int ((v4 * 1103515245) + 12345)), some (.int v5), some (.int (((((((v4 * 1103515245) + 12345)).toUInt32 >>> (Int32.toUInt32 (16) &&& Int32.toUInt32 31)).toInt32) &&& 65535) - ((((((v4 * 1103515245) + 12345)).toUInt32 >>> (Int32.toUInt32 (16) &&& Int32.toUInt32 31)).toInt32) &&& 65535) / ((mI m 541 9) - (mI m 541 8)) * ((mI m 541 9) - (mI m 541 8)))), none, none]) dX8_make_91 (Nat.le_of_ble_eq_true rfl) rfl ?_
          exact h
      · have h := h.2 hc3
        refine r_aload_n (y := m8_make) dX8_make_40 rfl rfl ?_
        refine g_X8_40 (y := m8_make) rfl dX8_make_41 hm ?_
        refine r_aload_n (y := m8_make) dX8_make_44 rfl rfl ?_
        refine g_X8_37 (y := m8_make) rfl dX8_make_45 hm ?_
        refine r_isub (y := m8_make) dX8_make_48 ?_
        refine r_iconst (y := m8_make) (v := 1) dX8_make_49 (by decide) ?_
        refine r_isub (y := m8_make) dX8_make_50 ?_
        refine r_goto (y := m8_make) (tgt := 55) dX8_make_51 (by decide) ?_
        refine r_istore (y := m8_make) (L' := [some (.ref 541), some (.ref ee1), some (.int v2), some (.int v3), some (.int v4), some (.int v5), some (.int (((mI m 541 9) - (mI m 541 8)) - 1)), none, none]) dX8_make_55 (Nat.le_of_ble_eq_true rfl) rfl ?_
        refine r_iload_n (y := m8_make) dX8_make_57 rfl rfl ?_
        refine r_iconst (y := m8_make) (v := 2) dX8_make_58 (by decide) ?_
        refine r_icmp_ne (y := m8_make) (tgt := 93) dX8_make_59 (by decide) (fun hc5 => ?_) (fun hc5 => ?_)
        · have h := h.1 hc5
          exact h
        · have h := h.2 hc5
          refine r_iload (y := m8_make) dX8_make_62 rfl ?_
          refine r_ldc (y := m8_make) (v := 1103515245) dX8_make_64 (by decide +kernel) ?_
          refine r_imul (y := m8_make) dX8_make_66 ?_
          refine r_sipush (y := m8_make) (v := 12345) dX8_make_67 (by decide) ?_
          refine r_iadd (y := m8_make) dX8_make_70 ?_
          refine r_istore (y := m8_make) (L' := [some (.ref 541), some (.ref ee1), some (.int v2), some (.int v3), some (.int ((v4 * 1103515245) + 12345)), some (.int v5), some (.int (((mI m 541 9) - (mI m 541 8)) - 1)), none, none]) dX8_make_71 (Nat.le_of_ble_eq_true rfl) rfl ?_
          refine r_iload (y := m8_make) dX8_make_73 rfl ?_
          refine r_bipush (y := m8_make) (v := 16) dX8_make_75 (by decide) ?_
          refine r_iushr (y := m8_make) (v := (((((v4 * 1103515245) + 12345)).toUInt32 >>> (Int32.toUInt32 (16) &&& Int32.toUInt32 31)).toInt32)) dX8_make_77 rfl ?_
          refine r_ldc (y := m8_make) (v := 65535) dX8_make_78 (by decide +kernel) ?_
          refine r_iand (y := m8_make) dX8_make_80 ?_
          refine r_aload_n (y := m8_make) dX8_make_81 rfl rfl ?_
          refine g_X8_40 (y := m8_make) rfl dX8_make_82 hm ?_
          refine r_aload_n (y := m8_make) dX8_make_85 rfl rfl ?_
          refine g_X8_37 (y := m8_make) rfl dX8_make_86 hm ?_
          refine r_isub (y := m8_make) dX8_make_89 ?_
          obtain ⟨h0, h⟩ := h
          refine r_irem (y := m8_make) dX8_make_90 h0 ?_
          refine r_istore (y := m8_make) (L' := [some (.ref 541), some (.ref ee1), some (.int v2), some (.int v3), some (.int ((v4 * 1103515245) + 12345)), some (.int v5), some (.int (((((((v4 * 1103515245) + 12345)).toUInt32 >>> (Int32.toUInt32 (16) &&& Int32.toUInt32 31)).toInt32) &&& 65535) - ((((((v4 * 1103515245) + 12345)).toUInt32 >>> (Int32.toUInt32 (16) &&& Int32.toUInt32 31)).toInt32) &&& 65535) / ((mI m 541 9) - (mI m 541 8)) * ((mI m 541 9) - (mI m 541 8)))), none, none]) dX8_make_91 (Nat.le_of_ble_eq_true rfl) rfl ?_
          exact h
set_option maxHeartbeats 4000000 in
set_option maxRecDepth 100000 in
theorem w8_make_166 {m : Mm} {K : Option Value ⊕ String → Mm → Prop} (hm : St m) {ee1 nn1 : Nat} {v2 : Int32} {v3 : Int32} {v4 : Int32} {v5 : Int32} (hee1 : isExp m ee1 nn1) (h : (((mI m 541 9) ≤ (mI m 541 8) → vp_in 5 6 ∧ vp_in 0 6 ∧ K (.inl (some (.int (mI m 543 0)))) (mSetI m 543 5 1)) ∧ (¬ (mI m 541 9) ≤ (mI m 541 8) → vp_in 5 6 ∧ vp_in 0 6 ∧ K (.inl (some (.int (mI m 543 0)))) (mSetI m 543 5 0)))) : V m8_make 166 [some (.ref 541), some (.ref ee1), some (.int v2), some (.int v3), some (.int v4), some (.int v5), none, none, none] [] m K := by
  refine r_aload_n (y := m8_make) dX8_make_166 rfl rfl ?_
  refine g_X8_17 (y := m8_make) rfl dX8_make_167 hm ?_
  refine r_iconst (y := m8_make) (v := 5) dX8_make_170 (by decide) ?_
  refine r_aload_n (y := m8_make) dX8_make_171 rfl rfl ?_
  refine g_X8_37 (y := m8_make) rfl dX8_make_172 hm ?_
  refine r_aload_n (y := m8_make) dX8_make_175 rfl rfl ?_
  refine g_X8_40 (y := m8_make) rfl dX8_make_176 hm ?_
  refine r_icmp_ge (y := m8_make) (tgt := 186) dX8_make_179 (by decide) (fun hc1 => ?_) (fun hc1 => ?_)
  · have h := h.1 hc1
    refine r_iconst (y := m8_make) (v := 1) dX8_make_186 (by decide) ?_
    obtain ⟨hb2, h⟩ := h
    refine r_iast (y := m8_make) (n := 6) dX8_make_187 (sa_543 hm) hb2 ?_
    refine r_aload_n (y := m8_make) dX8_make_188 rfl rfl ?_
    refine g_X8_17 (y := m8_make) rfl dX8_make_189 (St.i hm) ?_
    refine r_iconst (y := m8_make) (v := 0) dX8_make_192 (by decide) ?_
    obtain ⟨hb3, h⟩ := h
    refine r_iald (y := m8_make) (n := 6) dX8_make_193 (sa_543 (St.i hm)) hb3 ?_
    refine V.top (b := (mI m 543 0)) (by first | rfl | simp [mI_set, mI_setR]) ?_
    exact r_iret (y := m8_make) dX8_make_194 rfl rfl h
  · have h := h.2 hc1
    refine r_iconst (y := m8_make) (v := 0) dX8_make_182 (by decide) ?_
    refine r_goto (y := m8_make) (tgt := 187) dX8_make_183 (by decide) ?_
    obtain ⟨hb4, h⟩ := h
    refine r_iast (y := m8_make) (n := 6) dX8_make_187 (sa_543 hm) hb4 ?_
    refine r_aload_n (y := m8_make) dX8_make_188 rfl rfl ?_
    refine g_X8_17 (y := m8_make) rfl dX8_make_189 (St.i hm) ?_
    refine r_iconst (y := m8_make) (v := 0) dX8_make_192 (by decide) ?_
    obtain ⟨hb5, h⟩ := h
    refine r_iald (y := m8_make) (n := 6) dX8_make_193 (sa_543 (St.i hm)) hb5 ?_
    refine V.top (b := (mI m 543 0)) (by first | rfl | simp [mI_set, mI_setR]) ?_
    exact r_iret (y := m8_make) dX8_make_194 rfl rfl h
set_option maxHeartbeats 4000000 in
set_option maxRecDepth 100000 in
theorem w8_make_93 {m : Mm} {K : Option Value ⊕ String → Mm → Prop} (hm : St m) {ee1 nn1 : Nat} {v2 : Int32} {v3 : Int32} {v4 : Int32} {v5 : Int32} {v6 : Int32} (hee1 : isExp m ee1 nn1) (h : C m8_takeRow [(.ref 541), (.int v6)] m (fun o m1 => ∃ x3 : Int32, o = .inl (some (.int x3)) ∧ St m1 ∧ C m8_giveWays [(.ref 541), (.int x3)] m1 (fun o m4 => o = .inl none ∧ St m4 ∧ C m3_makeRun [(.ref 12), (.ref ee1)] m4 (fun o m6 => ∃ x8 : Int32, o = .inl (some (.int x8)) ∧ St m6 ∧ vp_in 4 6 ∧ vp_in 4 6 ∧ ((¬ x8 = 4 → vp_in x8 6 ∧ vp_in x8 6 ∧ C m8_keepValue [(.ref 541), (.int x8)] (mSetI (mSetI m6 543 4 ((mI m6 543 4) + 1)) 543 (Int32.toNatClampNeg x8) ((mI (mSetI m6 543 4 ((mI m6 543 4) + 1)) 543 (Int32.toNatClampNeg x8)) + 1)) (fun o m14 => o = .inl none ∧ St m14 ∧ V m8_make 160 [some (.ref 541), some (.ref ee1), some (.int v2), some (.int v3), some (.int v4), some (.int v5), some (.int v6), some (.int x3), some (.int x8)] [] m14 K)) ∧ (x8 = 4 → C m8_addBranches [(.ref 541), (.int x3), (.int v2)] (mSetI m6 543 4 ((mI m6 543 4) + 1)) (fun o m16 => o = .inl none ∧ St m16 ∧ V m8_make 160 [some (.ref 541), some (.ref ee1), some (.int v2), some (.int v3), some (.int v4), some (.int v5), some (.int v6), some (.int x3), some (.int x8)] [] m16 K))))))) : V m8_make 93 [some (.ref 541), some (.ref ee1), some (.int v2), some (.int v3), some (.int v4), some (.int v5), some (.int v6), none, none] [] m K := by
  refine r_aload_n (y := m8_make) dX8_make_93 rfl rfl ?_
  refine r_iload (y := m8_make) dX8_make_94 rfl ?_
  refine r_callV (y := m8_make) (As := [(.int v6)]) (b := 541) (ci := 8) dX8_make_96 rfl k8_takeRow lm_X8_60 rfl ⟨by decide, by decide⟩ (so_541 hm) (by decide) rfl (Nat.le_of_ble_eq_true rfl) (C.mono h ?_)
  rintro _ m1 ⟨x3, rfl, hm2, h⟩
  refine ⟨_, rfl, ?_⟩
  refine r_istore (y := m8_make) (L' := [some (.ref 541), some (.ref ee1), some (.int v2), some (.int v3), some (.int v4), some (.int v5), some (.int v6), some (.int x3), none]) dX8_make_99 (Nat.le_of_ble_eq_true rfl) rfl ?_
  refine r_aload_n (y := m8_make) dX8_make_101 rfl rfl ?_
  refine r_iload (y := m8_make) dX8_make_102 rfl ?_
  refine r_callV (y := m8_make) (As := [(.int x3)]) (b := 541) (ci := 8) dX8_make_104 rfl k8_giveWays lm_X8_64 rfl ⟨by decide, by decide⟩ (so_541 hm2) (by decide) rfl (Nat.le_of_ble_eq_true rfl) (C.mono h ?_)
  rintro _ m4 ⟨rfl, hm5, h⟩
  refine ⟨none, rfl, ?_⟩
  refine r_aload_n (y := m8_make) dX8_make_107 rfl rfl ?_
  refine g_X8_46 (y := m8_make) rfl dX8_make_108 hm5 ?_
  refine r_aload_n (y := m8_make) dX8_make_111 rfl rfl ?_
  refine r_callVN (y := m8_make) (As := [(.ref ee1)]) (b := 12) (ci := 3) dX8_make_112 rfl k3_makeRun lm_X8_68 rfl ⟨by decide, by decide⟩ (so_12 hm5) (by decide) rfl (Nat.le_of_ble_eq_true rfl) (C.mono h ?_)
  rintro _ m6 ⟨x8, rfl, hm7, h⟩
  refine ⟨_, rfl, ?_⟩
  refine r_istore (y := m8_make) (L' := [some (.ref 541), some (.ref ee1), some (.int v2), some (.int v3), some (.int v4), some (.int v5), some (.int v6), some (.int x3), some (.int x8)]) dX8_make_115 (Nat.le_of_ble_eq_true rfl) rfl ?_
  refine r_aload_n (y := m8_make) dX8_make_117 rfl rfl ?_
  refine g_X8_17 (y := m8_make) rfl dX8_make_118 hm7 ?_
  refine r_iconst (y := m8_make) (v := 4) dX8_make_121 (by decide) ?_
  refine r_dup2 (y := m8_make) dX8_make_122 ?_
  obtain ⟨hb9, h⟩ := h
  refine r_iald (y := m8_make) (n := 6) dX8_make_123 (sa_543 hm7) hb9 ?_
  refine r_iconst (y := m8_make) (v := 1) dX8_make_124 (by decide) ?_
  refine r_iadd (y := m8_make) dX8_make_125 ?_
  obtain ⟨hb10, h⟩ := h
  refine r_iast (y := m8_make) (n := 6) dX8_make_126 (sa_543 hm7) hb10 ?_
  refine r_iload (y := m8_make) dX8_make_127 rfl ?_
  refine r_iconst (y := m8_make) (v := 4) dX8_make_129 (by decide) ?_
  refine r_icmp_ne (y := m8_make) (tgt := 143) dX8_make_130 (by decide) (fun hc11 => ?_) (fun hc11 => ?_)
  · have h := h.1 hc11
    refine r_aload_n (y := m8_make) dX8_make_143 rfl rfl ?_
    refine g_X8_17 (y := m8_make) rfl dX8_make_144 (St.i hm7) ?_
    refine r_iload (y := m8_make) dX8_make_147 rfl ?_
    refine r_dup2 (y := m8_make) dX8_make_149 ?_
    obtain ⟨hb12, h⟩ := h
    refine r_iald (y := m8_make) (n := 6) dX8_make_150 (sa_543 (St.i hm7)) hb12 ?_
    refine r_iconst (y := m8_make) (v := 1) dX8_make_151 (by decide) ?_
    refine r_iadd (y := m8_make) dX8_make_152 ?_
    obtain ⟨hb13, h⟩ := h
    refine r_iast (y := m8_make) (n := 6) dX8_make_153 (sa_543 (St.i hm7)) hb13 ?_
    refine r_aload_n (y := m8_make) dX8_make_154 rfl rfl ?_
    refine r_iload (y := m8_make) dX8_make_155 rfl ?_
    refine r_callV (y := m8_make) (As := [(.int x8)]) (b := 541) (ci := 8) dX8_make_157 rfl k8_keepValue lm_X8_78 rfl ⟨by decide, by decide⟩ (so_541 (St.i (St.i hm7))) (by decide) rfl (Nat.le_of_ble_eq_true rfl) (C.mono h ?_)
    rintro _ m14 ⟨rfl, hm15, h⟩
    refine ⟨none, rfl, ?_⟩
    exact h
  · have h := h.2 hc11
    refine r_aload_n (y := m8_make) dX8_make_133 rfl rfl ?_
    refine r_iload (y := m8_make) dX8_make_134 rfl ?_
    refine r_iload_n (y := m8_make) dX8_make_136 rfl rfl ?_
    refine r_callV (y := m8_make) (As := [(.int x3), (.int v2)]) (b := 541) (ci := 8) dX8_make_137 rfl k8_addBranches lm_X8_74 rfl ⟨by decide, by decide⟩ (so_541 (St.i hm7)) (by decide) rfl (Nat.le_of_ble_eq_true rfl) (C.mono h ?_)
    rintro _ m16 ⟨rfl, hm17, h⟩
    refine ⟨none, rfl, ?_⟩
    refine r_goto (y := m8_make) (tgt := 160) dX8_make_140 (by decide) ?_
    exact h
set_option maxHeartbeats 4000000 in
set_option maxRecDepth 100000 in
theorem w8_make_160 {m : Mm} {K : Option Value ⊕ String → Mm → Prop} (hm : St m) {ee1 nn1 : Nat} {v2 : Int32} {v3 : Int32} {v4 : Int32} {v5 : Int32} {v6 : Int32} {v7 : Int32} {v8 : Int32} (hee1 : isExp m ee1 nn1) (h : V m8_make 17 [some (.ref 541), some (.ref ee1), some (.int v2), some (.int v3), some (.int v4), some (.int (v5 + 1)), some (.int v6), some (.int v7), some (.int v8)] [] m K) : V m8_make 160 [some (.ref 541), some (.ref ee1), some (.int v2), some (.int v3), some (.int v4), some (.int v5), some (.int v6), some (.int v7), some (.int v8)] [] m K := by
  refine r_iinc (y := m8_make) (v := (v5 + 1)) (L' := [some (.ref 541), some (.ref ee1), some (.int v2), some (.int v3), some (.int v4), some (.int (v5 + 1)), some (.int v6), some (.int v7), some (.int v8)]) dX8_make_160 rfl (by rfl) rfl ?_
  refine r_goto (y := m8_make) (tgt := 17) dX8_make_163 (by decide) ?_
  exact h
set_option maxHeartbeats 4000000 in
set_option maxRecDepth 100000 in
theorem w8_clear {m : Mm} {K : Option Value ⊕ String → Mm → Prop} (hm : St m)   (h : V m8_clear 2 [some (.ref 541), some (.int 0)] [] m K) : V m8_clear 0 [some (.ref 541), none] [] m K := by
  refine r_iconst (y := m8_clear) (v := 0) dX8_clear_0 (by decide) ?_
  refine r_istore_n (y := m8_clear) (L' := [some (.ref 541), some (.int 0)]) dX8_clear_1 rfl (Nat.le_of_ble_eq_true rfl) rfl ?_
  exact h
set_option maxHeartbeats 4000000 in
set_option maxRecDepth 100000 in
theorem w8_clear_2 {m : Mm} {K : Option Value ⊕ String → Mm → Prop} (hm : St m) {v1 : Int32}  (h : ((6 ≤ v1 → K (.inl none) (mSetI (mSetI (mSetI (mSetI m 541 6 0) 541 8 0) 541 9 0) 541 10 0)) ∧ (¬ 6 ≤ v1 → vp_in v1 6 ∧ V m8_clear 2 [some (.ref 541), some (.int (v1 + 1))] [] (mSetI m 543 (Int32.toNatClampNeg v1) 0) K))) : V m8_clear 2 [some (.ref 541), some (.int v1)] [] m K := by
  refine r_iload_n (y := m8_clear) dX8_clear_2 rfl rfl ?_
  refine r_bipush (y := m8_clear) (v := 6) dX8_clear_3 (by decide) ?_
  refine r_icmp_ge (y := m8_clear) (tgt := 21) dX8_clear_5 (by decide) (fun hc1 => ?_) (fun hc1 => ?_)
  · have h := h.1 hc1
    refine r_aload_n (y := m8_clear) dX8_clear_21 rfl rfl ?_
    refine r_iconst (y := m8_clear) (v := 0) dX8_clear_22 (by decide) ?_
    refine p_X8_30 (y := m8_clear) rfl dX8_clear_23 hm ?_
    refine r_aload_n (y := m8_clear) dX8_clear_26 rfl rfl ?_
    refine r_iconst (y := m8_clear) (v := 0) dX8_clear_27 (by decide) ?_
    refine p_X8_37 (y := m8_clear) rfl dX8_clear_28 (St.i hm) ?_
    refine r_aload_n (y := m8_clear) dX8_clear_31 rfl rfl ?_
    refine r_iconst (y := m8_clear) (v := 0) dX8_clear_32 (by decide) ?_
    refine p_X8_40 (y := m8_clear) rfl dX8_clear_33 (St.i (St.i hm)) ?_
    refine r_aload_n (y := m8_clear) dX8_clear_36 rfl rfl ?_
    refine r_iconst (y := m8_clear) (v := 0) dX8_clear_37 (by decide) ?_
    refine p_X8_43 (y := m8_clear) rfl dX8_clear_38 (St.i (St.i (St.i hm))) ?_
    exact r_ret (y := m8_clear) dX8_clear_41 rfl h
  · have h := h.2 hc1
    refine r_aload_n (y := m8_clear) dX8_clear_8 rfl rfl ?_
    refine g_X8_17 (y := m8_clear) rfl dX8_clear_9 hm ?_
    refine r_iload_n (y := m8_clear) dX8_clear_12 rfl rfl ?_
    refine r_iconst (y := m8_clear) (v := 0) dX8_clear_13 (by decide) ?_
    obtain ⟨hb2, h⟩ := h
    refine r_iast (y := m8_clear) (n := 6) dX8_clear_14 (sa_543 hm) hb2 ?_
    refine r_iinc (y := m8_clear) (v := (v1 + 1)) (L' := [some (.ref 541), some (.int (v1 + 1))]) dX8_clear_15 rfl (by rfl) rfl ?_
    refine r_goto (y := m8_clear) (tgt := 2) dX8_clear_18 (by decide) ?_
    exact h
set_option maxHeartbeats 4000000 in
set_option maxRecDepth 100000 in
theorem w8_addRow {m : Mm} {K : Option Value ⊕ String → Mm → Prop} (hm : St m) {a0 : Int32} {a1 : Int32} {a2 : Int32}  (h : ((4801 ≤ (mI m 541 6) → K (.inl none) m) ∧ (¬ 4801 ≤ (mI m 541 6) → ((4801 ≤ (mI m 541 9) → K (.inl none) m) ∧ (¬ 4801 ≤ (mI m 541 9) → vp_in (mI m 541 6) 4801 ∧ vp_in (mI m 541 6) 4801 ∧ vp_in (mI m 541 6) 4801 ∧ vp_in (mI m 541 9) 4801 ∧ K (.inl none) (mSetI (mSetI (mSetI (mSetI (mSetI (mSetI m 544 (Int32.toNatClampNeg (mI m 541 6)) a0) 545 (Int32.toNatClampNeg (mI m 541 6)) a1) 546 (Int32.toNatClampNeg (mI m 541 6)) a2) 547 (Int32.toNatClampNeg (mI m 541 9)) (mI m 541 6)) 541 6 ((mI m 541 6) + 1)) 541 9 ((mI m 541 9) + 1))))))) : V m8_addRow 0 [some (.ref 541), some (.int a0), some (.int a1), some (.int a2)] [] m K := by
  refine r_aload_n (y := m8_addRow) dX8_addRow_0 rfl rfl ?_
  refine g_X8_30 (y := m8_addRow) rfl dX8_addRow_1 hm ?_
  refine r_sipush (y := m8_addRow) (v := 4801) dX8_addRow_4 (by decide) ?_
  refine r_icmp_ge (y := m8_addRow) (tgt := 83) dX8_addRow_7 (by decide) (fun hc1 => ?_) (fun hc1 => ?_)
  · have h := h.1 hc1
    exact r_ret (y := m8_addRow) dX8_addRow_83 rfl h
  · have h := h.2 hc1
    refine r_aload_n (y := m8_addRow) dX8_addRow_10 rfl rfl ?_
    refine g_X8_40 (y := m8_addRow) rfl dX8_addRow_11 hm ?_
    refine r_sipush (y := m8_addRow) (v := 4801) dX8_addRow_14 (by decide) ?_
    refine r_icmp_ge (y := m8_addRow) (tgt := 83) dX8_addRow_17 (by decide) (fun hc2 => ?_) (fun hc2 => ?_)
    · have h := h.1 hc2
      exact r_ret (y := m8_addRow) dX8_addRow_83 rfl h
    · have h := h.2 hc2
      refine r_aload_n (y := m8_addRow) dX8_addRow_20 rfl rfl ?_
      refine g_X8_21 (y := m8_addRow) rfl dX8_addRow_21 hm ?_
      refine r_aload_n (y := m8_addRow) dX8_addRow_24 rfl rfl ?_
      refine g_X8_30 (y := m8_addRow) rfl dX8_addRow_25 hm ?_
      refine r_iload_n (y := m8_addRow) dX8_addRow_28 rfl rfl ?_
      obtain ⟨hb3, h⟩ := h
      refine r_iast (y := m8_addRow) (n := 4801) dX8_addRow_29 (sa_544 hm) hb3 ?_
      refine r_aload_n (y := m8_addRow) dX8_addRow_30 rfl rfl ?_
      refine g_X8_24 (y := m8_addRow) rfl dX8_addRow_31 (St.i hm) ?_
      refine r_aload_n (y := m8_addRow) dX8_addRow_34 rfl rfl ?_
      refine g_X8_30 (y := m8_addRow) rfl dX8_addRow_35 (St.i hm) ?_
      refine V.top (b := (mI m 541 6)) (by first | rfl | simp [mI_set, mI_setR]) ?_
      refine r_iload_n (y := m8_addRow) dX8_addRow_38 rfl rfl ?_
      obtain ⟨hb4, h⟩ := h
      refine r_iast (y := m8_addRow) (n := 4801) dX8_addRow_39 (sa_545 (St.i hm)) hb4 ?_
      refine r_aload_n (y := m8_addRow) dX8_addRow_40 rfl rfl ?_
      refine g_X8_27 (y := m8_addRow) rfl dX8_addRow_41 (St.i (St.i hm)) ?_
      refine r_aload_n (y := m8_addRow) dX8_addRow_44 rfl rfl ?_
      refine g_X8_30 (y := m8_addRow) rfl dX8_addRow_45 (St.i (St.i hm)) ?_
      refine V.top (b := (mI m 541 6)) (by first | rfl | simp [mI_set, mI_setR]) ?_
      refine r_iload_n (y := m8_addRow) dX8_addRow_48 rfl rfl ?_
      obtain ⟨hb5, h⟩ := h
      refine r_iast (y := m8_addRow) (n := 4801) dX8_addRow_49 (sa_546 (St.i (St.i hm))) hb5 ?_
      refine r_aload_n (y := m8_addRow) dX8_addRow_50 rfl rfl ?_
      refine g_X8_34 (y := m8_addRow) rfl dX8_addRow_51 (St.i (St.i (St.i hm))) ?_
      refine r_aload_n (y := m8_addRow) dX8_addRow_54 rfl rfl ?_
      refine g_X8_40 (y := m8_addRow) rfl dX8_addRow_55 (St.i (St.i (St.i hm))) ?_
      refine V.top (b := (mI m 541 9)) (by first | rfl | simp [mI_set, mI_setR]) ?_
      refine r_aload_n (y := m8_addRow) dX8_addRow_58 rfl rfl ?_
      refine g_X8_30 (y := m8_addRow) rfl dX8_addRow_59 (St.i (St.i (St.i hm))) ?_
      refine V.top (b := (mI m 541 6)) (by first | rfl | simp [mI_set, mI_setR]) ?_
      obtain ⟨hb6, h⟩ := h
      refine r_iast (y := m8_addRow) (n := 4801) dX8_addRow_62 (sa_547 (St.i (St.i (St.i hm)))) hb6 ?_
      refine r_aload_n (y := m8_addRow) dX8_addRow_63 rfl rfl ?_
      refine r_dup_r (y := m8_addRow) dX8_addRow_64 ?_
      refine g_X8_30 (y := m8_addRow) rfl dX8_addRow_65 (St.i (St.i (St.i (St.i hm)))) ?_
      refine V.top (b := (mI m 541 6)) (by first | rfl | simp [mI_set, mI_setR]) ?_
      refine r_iconst (y := m8_addRow) (v := 1) dX8_addRow_68 (by decide) ?_
      refine r_iadd (y := m8_addRow) dX8_addRow_69 ?_
      refine p_X8_30 (y := m8_addRow) rfl dX8_addRow_70 (St.i (St.i (St.i (St.i hm)))) ?_
      refine r_aload_n (y := m8_addRow) dX8_addRow_73 rfl rfl ?_
      refine r_dup_r (y := m8_addRow) dX8_addRow_74 ?_
      refine g_X8_40 (y := m8_addRow) rfl dX8_addRow_75 (St.i (St.i (St.i (St.i (St.i hm))))) ?_
      refine V.top (b := (mI m 541 9)) (by first | rfl | simp [mI_set, mI_setR]) ?_
      refine r_iconst (y := m8_addRow) (v := 1) dX8_addRow_78 (by decide) ?_
      refine r_iadd (y := m8_addRow) dX8_addRow_79 ?_
      refine p_X8_40 (y := m8_addRow) rfl dX8_addRow_80 (St.i (St.i (St.i (St.i (St.i hm))))) ?_
      exact r_ret (y := m8_addRow) dX8_addRow_83 rfl h
set_option maxHeartbeats 4000000 in
set_option maxRecDepth 100000 in
theorem w8_addBranches {m : Mm} {K : Option Value ⊕ String → Mm → Prop} (hm : St m) {a0 : Int32} {a1 : Int32}  (h : V m8_addBranches 11 [some (.ref 541), some (.int a0), some (.int a1), some (.int (mI m 12 13)), some (.int 0)] [] m K) : V m8_addBranches 0 [some (.ref 541), some (.int a0), some (.int a1), none, none] [] m K := by
  refine r_aload_n (y := m8_addBranches) dX8_addBranches_0 rfl rfl ?_
  refine g_X8_46 (y := m8_addBranches) rfl dX8_addBranches_1 hm ?_
  refine g_X8_81 (y := m8_addBranches) rfl dX8_addBranches_4 hm ?_
  refine r_istore_n (y := m8_addBranches) (L' := [some (.ref 541), some (.int a0), some (.int a1), some (.int (mI m 12 13)), none]) dX8_addBranches_7 rfl (Nat.le_of_ble_eq_true rfl) rfl ?_
  refine r_iconst (y := m8_addBranches) (v := 0) dX8_addBranches_8 (by decide) ?_
  refine r_istore (y := m8_addBranches) (L' := [some (.ref 541), some (.int a0), some (.int a1), some (.int (mI m 12 13)), some (.int 0)]) dX8_addBranches_9 (Nat.le_of_ble_eq_true rfl) rfl ?_
  exact h
set_option maxHeartbeats 4000000 in
set_option maxRecDepth 100000 in
theorem w8_addBranches_11 {m : Mm} {K : Option Value ⊕ String → Mm → Prop} (hm : St m) {v1 : Int32} {v2 : Int32} {v3 : Int32} {v4 : Int32}  (h : ((v3 ≤ v4 → K (.inl none) m) ∧ (¬ v3 ≤ v4 → ((¬ v2 = 0 → vp_in v1 4801 ∧ C m8_addRow [(.ref 541), (.int v1), (.int v4), (.int ((mI m 546 (Int32.toNatClampNeg v1)) + 1))] m (fun o m4 => o = .inl none ∧ St m4 ∧ V m8_addBranches 11 [some (.ref 541), some (.int v1), some (.int v2), some (.int v3), some (.int (v4 + 1))] [] m4 K)) ∧ (v2 = 0 → vp_in v1 4801 ∧ C m8_addRow [(.ref 541), (.int v1), (.int ((v3 - 1) - v4)), (.int ((mI m 546 (Int32.toNatClampNeg v1)) + 1))] m (fun o m7 => o = .inl none ∧ St m7 ∧ V m8_addBranches 11 [some (.ref 541), some (.int v1), some (.int v2), some (.int v3), some (.int (v4 + 1))] [] m7 K)))))) : V m8_addBranches 11 [some (.ref 541), some (.int v1), some (.int v2), some (.int v3), some (.int v4)] [] m K := by
  refine r_iload (y := m8_addBranches) dX8_addBranches_11 rfl ?_
  refine r_iload_n (y := m8_addBranches) dX8_addBranches_13 rfl rfl ?_
  refine r_icmp_ge (y := m8_addBranches) (tgt := 51) dX8_addBranches_14 (by decide) (fun hc1 => ?_) (fun hc1 => ?_)
  · have h := h.1 hc1
    exact r_ret (y := m8_addBranches) dX8_addBranches_51 rfl h
  · have h := h.2 hc1
    refine r_aload_n (y := m8_addBranches) dX8_addBranches_17 rfl rfl ?_
    refine r_iload_n (y := m8_addBranches) dX8_addBranches_18 rfl rfl ?_
    refine r_iload_n (y := m8_addBranches) dX8_addBranches_19 rfl rfl ?_
    refine r_if_ne (y := m8_addBranches) (tgt := 32) dX8_addBranches_20 (by decide) (fun hc2 => ?_) (fun hc2 => ?_)
    · have h := h.1 hc2
      refine r_iload (y := m8_addBranches) dX8_addBranches_32 rfl ?_
      refine r_aload_n (y := m8_addBranches) dX8_addBranches_34 rfl rfl ?_
      refine g_X8_27 (y := m8_addBranches) rfl dX8_addBranches_35 hm ?_
      refine r_iload_n (y := m8_addBranches) dX8_addBranches_38 rfl rfl ?_
      obtain ⟨hb3, h⟩ := h
      refine r_iald (y := m8_addBranches) (n := 4801) dX8_addBranches_39 (sa_546 hm) hb3 ?_
      refine r_iconst (y := m8_addBranches) (v := 1) dX8_addBranches_40 (by decide) ?_
      refine r_iadd (y := m8_addBranches) dX8_addBranches_41 ?_
      refine r_callV (y := m8_addBranches) (As := [(.int v1), (.int v4), (.int ((mI m 546 (Int32.toNatClampNeg v1)) + 1))]) (b := 541) (ci := 8) dX8_addBranches_42 rfl k8_addRow lm_X8_54 rfl ⟨by decide, by decide⟩ (so_541 hm) (by decide) rfl (Nat.le_of_ble_eq_true rfl) (C.mono h ?_)
      rintro _ m4 ⟨rfl, hm5, h⟩
      refine ⟨none, rfl, ?_⟩
      refine r_iinc (y := m8_addBranches) (v := (v4 + 1)) (L' := [some (.ref 541), some (.int v1), some (.int v2), some (.int v3), some (.int (v4 + 1))]) dX8_addBranches_45 rfl (by rfl) rfl ?_
      refine r_goto (y := m8_addBranches) (tgt := 11) dX8_addBranches_48 (by decide) ?_
      exact h
    · have h := h.2 hc2
      refine r_iload_n (y := m8_addBranches) dX8_addBranches_23 rfl rfl ?_
      refine r_iconst (y := m8_addBranches) (v := 1) dX8_addBranches_24 (by decide) ?_
      refine r_isub (y := m8_addBranches) dX8_addBranches_25 ?_
      refine r_iload (y := m8_addBranches) dX8_addBranches_26 rfl ?_
      refine r_isub (y := m8_addBranches) dX8_addBranches_28 ?_
      refine r_goto (y := m8_addBranches) (tgt := 34) dX8_addBranches_29 (by decide) ?_
      refine r_aload_n (y := m8_addBranches) dX8_addBranches_34 rfl rfl ?_
      refine g_X8_27 (y := m8_addBranches) rfl dX8_addBranches_35 hm ?_
      refine r_iload_n (y := m8_addBranches) dX8_addBranches_38 rfl rfl ?_
      obtain ⟨hb6, h⟩ := h
      refine r_iald (y := m8_addBranches) (n := 4801) dX8_addBranches_39 (sa_546 hm) hb6 ?_
      refine r_iconst (y := m8_addBranches) (v := 1) dX8_addBranches_40 (by decide) ?_
      refine r_iadd (y := m8_addBranches) dX8_addBranches_41 ?_
      refine r_callV (y := m8_addBranches) (As := [(.int v1), (.int ((v3 - 1) - v4)), (.int ((mI m 546 (Int32.toNatClampNeg v1)) + 1))]) (b := 541) (ci := 8) dX8_addBranches_42 rfl k8_addRow lm_X8_54 rfl ⟨by decide, by decide⟩ (so_541 hm) (by decide) rfl (Nat.le_of_ble_eq_true rfl) (C.mono h ?_)
      rintro _ m7 ⟨rfl, hm8, h⟩
      refine ⟨none, rfl, ?_⟩
      refine r_iinc (y := m8_addBranches) (v := (v4 + 1)) (L' := [some (.ref 541), some (.int v1), some (.int v2), some (.int v3), some (.int (v4 + 1))]) dX8_addBranches_45 rfl (by rfl) rfl ?_
      refine r_goto (y := m8_addBranches) (tgt := 11) dX8_addBranches_48 (by decide) ?_
      exact h
set_option maxHeartbeats 4000000 in
set_option maxRecDepth 100000 in
theorem w8_takeRow {m : Mm} {K : Option Value ⊕ String → Mm → Prop} (hm : St m) {a0 : Int32}  (h : vp_in ((mI m 541 8) + a0) 4801 ∧ ((¬ a0 = 0 → (¬ (((mI m 541 8) + a0) + 1) < 0 ∧ ¬ ((mI m 541 8) + a0) < 0 ∧ ¬ (((mI m 541 9) - ((mI m 541 8) + a0)) - 1) < 0 ∧ (Int32.toNatClampNeg (((mI m 541 8) + a0) + 1)) + (Int32.toNatClampNeg (((mI m 541 9) - ((mI m 541 8) + a0)) - 1)) ≤ 4801 ∧ (Int32.toNatClampNeg ((mI m 541 8) + a0)) + (Int32.toNatClampNeg (((mI m 541 9) - ((mI m 541 8) + a0)) - 1)) ≤ 4801) ∧ K (.inl (some (.int (mI m 547 (Int32.toNatClampNeg ((mI m 541 8) + a0)))))) (mSetI (mCpy m 547 (Int32.toNatClampNeg (((mI m 541 8) + a0) + 1)) (Int32.toNatClampNeg ((mI m 541 8) + a0)) (Int32.toNatClampNeg (((mI m 541 9) - ((mI m 541 8) + a0)) - 1))) 541 9 ((mI (mCpy m 547 (Int32.toNatClampNeg (((mI m 541 8) + a0) + 1)) (Int32.toNatClampNeg ((mI m 541 8) + a0)) (Int32.toNatClampNeg (((mI m 541 9) - ((mI m 541 8) + a0)) - 1))) 541 9) - 1))) ∧ (a0 = 0 → K (.inl (some (.int (mI m 547 (Int32.toNatClampNeg ((mI m 541 8) + a0)))))) (mSetI m 541 8 ((mI m 541 8) + 1))))) : V m8_takeRow 0 [some (.ref 541), some (.int a0), none, none] [] m K := by
  refine r_aload_n (y := m8_takeRow) dX8_takeRow_0 rfl rfl ?_
  refine g_X8_37 (y := m8_takeRow) rfl dX8_takeRow_1 hm ?_
  refine r_iload_n (y := m8_takeRow) dX8_takeRow_4 rfl rfl ?_
  refine r_iadd (y := m8_takeRow) dX8_takeRow_5 ?_
  refine r_istore_n (y := m8_takeRow) (L' := [some (.ref 541), some (.int a0), some (.int ((mI m 541 8) + a0)), none]) dX8_takeRow_6 rfl (Nat.le_of_ble_eq_true rfl) rfl ?_
  refine r_aload_n (y := m8_takeRow) dX8_takeRow_7 rfl rfl ?_
  refine g_X8_34 (y := m8_takeRow) rfl dX8_takeRow_8 hm ?_
  refine r_iload_n (y := m8_takeRow) dX8_takeRow_11 rfl rfl ?_
  obtain ⟨hb1, h⟩ := h
  refine r_iald (y := m8_takeRow) (n := 4801) dX8_takeRow_12 (sa_547 hm) hb1 ?_
  refine r_istore_n (y := m8_takeRow) (L' := [some (.ref 541), some (.int a0), some (.int ((mI m 541 8) + a0)), some (.int (mI m 547 (Int32.toNatClampNeg ((mI m 541 8) + a0))))]) dX8_takeRow_13 rfl (Nat.le_of_ble_eq_true rfl) rfl ?_
  refine r_iload_n (y := m8_takeRow) dX8_takeRow_14 rfl rfl ?_
  refine r_if_ne (y := m8_takeRow) (tgt := 31) dX8_takeRow_15 (by decide) (fun hc2 => ?_) (fun hc2 => ?_)
  · have h := h.1 hc2
    refine r_aload_n (y := m8_takeRow) dX8_takeRow_31 rfl rfl ?_
    refine g_X8_34 (y := m8_takeRow) rfl dX8_takeRow_32 hm ?_
    refine r_iload_n (y := m8_takeRow) dX8_takeRow_35 rfl rfl ?_
    refine r_iconst (y := m8_takeRow) (v := 1) dX8_takeRow_36 (by decide) ?_
    refine r_iadd (y := m8_takeRow) dX8_takeRow_37 ?_
    refine r_aload_n (y := m8_takeRow) dX8_takeRow_38 rfl rfl ?_
    refine g_X8_34 (y := m8_takeRow) rfl dX8_takeRow_39 hm ?_
    refine r_iload_n (y := m8_takeRow) dX8_takeRow_42 rfl rfl ?_
    refine r_aload_n (y := m8_takeRow) dX8_takeRow_43 rfl rfl ?_
    refine g_X8_40 (y := m8_takeRow) rfl dX8_takeRow_44 hm ?_
    refine r_iload_n (y := m8_takeRow) dX8_takeRow_47 rfl rfl ?_
    refine r_isub (y := m8_takeRow) dX8_takeRow_48 ?_
    refine r_iconst (y := m8_takeRow) (v := 1) dX8_takeRow_49 (by decide) ?_
    refine r_isub (y := m8_takeRow) dX8_takeRow_50 ?_
    obtain ⟨h0, h⟩ := h
    refine r_acopy (y := m8_takeRow) (n := 4801) dX8_takeRow_51 (sa_547 hm) h0.1 h0.2.1 h0.2.2.1 h0.2.2.2.1 h0.2.2.2.2 acp_X8 (by decide) (Nat.le_of_ble_eq_true rfl) ?_
    refine r_aload_n (y := m8_takeRow) dX8_takeRow_54 rfl rfl ?_
    refine r_dup_r (y := m8_takeRow) dX8_takeRow_55 ?_
    refine g_X8_40 (y := m8_takeRow) rfl dX8_takeRow_56 hm ?_
    refine r_iconst (y := m8_takeRow) (v := 1) dX8_takeRow_59 (by decide) ?_
    refine r_isub (y := m8_takeRow) dX8_takeRow_60 ?_
    refine p_X8_40 (y := m8_takeRow) rfl dX8_takeRow_61 hm ?_
    refine r_iload_n (y := m8_takeRow) dX8_takeRow_64 rfl rfl ?_
    exact r_iret (y := m8_takeRow) dX8_takeRow_65 rfl rfl h
  · have h := h.2 hc2
    refine r_aload_n (y := m8_takeRow) dX8_takeRow_18 rfl rfl ?_
    refine r_dup_r (y := m8_takeRow) dX8_takeRow_19 ?_
    refine g_X8_37 (y := m8_takeRow) rfl dX8_takeRow_20 hm ?_
    refine r_iconst (y := m8_takeRow) (v := 1) dX8_takeRow_23 (by decide) ?_
    refine r_iadd (y := m8_takeRow) dX8_takeRow_24 ?_
    refine p_X8_37 (y := m8_takeRow) rfl dX8_takeRow_25 hm ?_
    refine r_goto (y := m8_takeRow) (tgt := 64) dX8_takeRow_28 (by decide) ?_
    refine r_iload_n (y := m8_takeRow) dX8_takeRow_64 rfl rfl ?_
    exact r_iret (y := m8_takeRow) dX8_takeRow_65 rfl rfl h
set_option maxHeartbeats 4000000 in
set_option maxRecDepth 100000 in
theorem w8_giveWays {m : Mm} {K : Option Value ⊕ String → Mm → Prop} (hm : St m) {a0 : Int32}  (h : vp_in a0 4801 ∧ ((40 ≤ (mI m 546 (Int32.toNatClampNeg a0)) → V m8_giveWays 44 [some (.ref 541), some (.int a0), some (.ref (235 + 3 * 0)), some (.int a0), some (.int (40 - 1))] [] (mSetI m (235 + 3 * 0) 2 40) K) ∧ (¬ 40 ≤ (mI m 546 (Int32.toNatClampNeg a0)) → vp_in a0 4801 ∧ V m8_giveWays 44 [some (.ref 541), some (.int a0), some (.ref (235 + 3 * 0)), some (.int a0), some (.int ((mI m 546 (Int32.toNatClampNeg a0)) - 1))] [] (mSetI m (235 + 3 * 0) 2 (mI m 546 (Int32.toNatClampNeg a0))) K))) : V m8_giveWays 0 [some (.ref 541), some (.int a0), none, none, none] [] m K := by
  refine r_aload_n (y := m8_giveWays) dX8_giveWays_0 rfl rfl ?_
  refine g_X8_46 (y := m8_giveWays) rfl dX8_giveWays_1 hm ?_
  refine g_X8_90 (y := m8_giveWays) rfl dX8_giveWays_4 hm ?_
  refine r_astore_n (y := m8_giveWays) (L' := [some (.ref 541), some (.int a0), some (.ref (235 + 3 * 0)), none, none]) dX8_giveWays_7 rfl (Nat.le_of_ble_eq_true rfl) rfl ?_
  refine r_iload_n (y := m8_giveWays) dX8_giveWays_8 rfl rfl ?_
  refine r_istore_n (y := m8_giveWays) (L' := [some (.ref 541), some (.int a0), some (.ref (235 + 3 * 0)), some (.int a0), none]) dX8_giveWays_9 rfl (Nat.le_of_ble_eq_true rfl) rfl ?_
  refine r_aload_n (y := m8_giveWays) dX8_giveWays_10 rfl rfl ?_
  refine r_aload_n (y := m8_giveWays) dX8_giveWays_11 rfl rfl ?_
  refine g_X8_27 (y := m8_giveWays) rfl dX8_giveWays_12 hm ?_
  refine r_iload_n (y := m8_giveWays) dX8_giveWays_15 rfl rfl ?_
  obtain ⟨hb1, h⟩ := h
  refine r_iald (y := m8_giveWays) (n := 4801) dX8_giveWays_16 (sa_546 hm) hb1 ?_
  refine r_bipush (y := m8_giveWays) (v := 40) dX8_giveWays_17 (by decide) ?_
  refine r_icmp_ge (y := m8_giveWays) (tgt := 31) dX8_giveWays_19 (by decide) (fun hc2 => ?_) (fun hc2 => ?_)
  · have h := h.1 hc2
    refine r_bipush (y := m8_giveWays) (v := 40) dX8_giveWays_31 (by decide) ?_
    refine p_X8_94 (y := m8_giveWays) (i := 0) rfl dX8_giveWays_33 hm (by decide) ?_
    refine r_aload_n (y := m8_giveWays) dX8_giveWays_36 rfl rfl ?_
    refine g_X8_94 (y := m8_giveWays) (i := 0) rfl dX8_giveWays_37 (St.i hm) (by decide) ?_
    refine V.top (b := 40) (by first | rfl | simp [mI_set, mI_setR]) ?_
    refine r_iconst (y := m8_giveWays) (v := 1) dX8_giveWays_40 (by decide) ?_
    refine r_isub (y := m8_giveWays) dX8_giveWays_41 ?_
    refine r_istore (y := m8_giveWays) (L' := [some (.ref 541), some (.int a0), some (.ref (235 + 3 * 0)), some (.int a0), some (.int (40 - 1))]) dX8_giveWays_42 (Nat.le_of_ble_eq_true rfl) rfl ?_
    exact h
  · have h := h.2 hc2
    refine r_aload_n (y := m8_giveWays) dX8_giveWays_22 rfl rfl ?_
    refine g_X8_27 (y := m8_giveWays) rfl dX8_giveWays_23 hm ?_
    refine r_iload_n (y := m8_giveWays) dX8_giveWays_26 rfl rfl ?_
    obtain ⟨hb3, h⟩ := h
    refine r_iald (y := m8_giveWays) (n := 4801) dX8_giveWays_27 (sa_546 hm) hb3 ?_
    refine r_goto (y := m8_giveWays) (tgt := 33) dX8_giveWays_28 (by decide) ?_
    refine p_X8_94 (y := m8_giveWays) (i := 0) rfl dX8_giveWays_33 hm (by decide) ?_
    refine r_aload_n (y := m8_giveWays) dX8_giveWays_36 rfl rfl ?_
    refine g_X8_94 (y := m8_giveWays) (i := 0) rfl dX8_giveWays_37 (St.i hm) (by decide) ?_
    refine V.top (b := (mI m 546 (Int32.toNatClampNeg a0))) (by first | rfl | simp [mI_set, mI_setR]) ?_
    refine r_iconst (y := m8_giveWays) (v := 1) dX8_giveWays_40 (by decide) ?_
    refine r_isub (y := m8_giveWays) dX8_giveWays_41 ?_
    refine r_istore (y := m8_giveWays) (L' := [some (.ref 541), some (.int a0), some (.ref (235 + 3 * 0)), some (.int a0), some (.int ((mI m 546 (Int32.toNatClampNeg a0)) - 1))]) dX8_giveWays_42 (Nat.le_of_ble_eq_true rfl) rfl ?_
    exact h
set_option maxHeartbeats 4000000 in
set_option maxRecDepth 100000 in
theorem w8_giveWays_44 {m : Mm} {K : Option Value ⊕ String → Mm → Prop} (hm : St m) {v1 : Int32} {jj2 : Nat} {v3 : Int32} {v4 : Int32} (hjj2 : jj2 < 102) (h : ((v4 < 0 → K (.inl none) m) ∧ (¬ v4 < 0 → vp_in v3 4801 ∧ vp_in v4 40 ∧ vp_in v3 4801 ∧ V m8_giveWays 44 [some (.ref 541), some (.int v1), some (.ref (235 + 3 * jj2)), some (.int (mI (mSetI m (236 + 3 * jj2) (Int32.toNatClampNeg v4) (mI m 545 (Int32.toNatClampNeg v3))) 544 (Int32.toNatClampNeg v3))), some (.int (v4 + (-1)))] [] (mSetI m (236 + 3 * jj2) (Int32.toNatClampNeg v4) (mI m 545 (Int32.toNatClampNeg v3))) K))) : V m8_giveWays 44 [some (.ref 541), some (.int v1), some (.ref (235 + 3 * jj2)), some (.int v3), some (.int v4)] [] m K := by
  refine r_iload (y := m8_giveWays) dX8_giveWays_44 rfl ?_
  refine r_if_lt (y := m8_giveWays) (tgt := 75) dX8_giveWays_46 (by decide) (fun hc1 => ?_) (fun hc1 => ?_)
  · have h := h.1 hc1
    exact r_ret (y := m8_giveWays) dX8_giveWays_75 rfl h
  · have h := h.2 hc1
    refine r_aload_n (y := m8_giveWays) dX8_giveWays_49 rfl rfl ?_
    refine g_X8_99 (y := m8_giveWays) (i := jj2) rfl dX8_giveWays_50 hm hjj2 ?_
    refine r_iload (y := m8_giveWays) dX8_giveWays_53 rfl ?_
    refine r_aload_n (y := m8_giveWays) dX8_giveWays_55 rfl rfl ?_
    refine g_X8_24 (y := m8_giveWays) rfl dX8_giveWays_56 hm ?_
    refine r_iload_n (y := m8_giveWays) dX8_giveWays_59 rfl rfl ?_
    obtain ⟨hb2, h⟩ := h
    refine r_iald (y := m8_giveWays) (n := 4801) dX8_giveWays_60 (sa_545 hm) hb2 ?_
    obtain ⟨hb3, h⟩ := h
    refine r_iast (y := m8_giveWays) (n := 40) dX8_giveWays_61 (sa_lw hm hjj2) hb3 ?_
    refine r_aload_n (y := m8_giveWays) dX8_giveWays_62 rfl rfl ?_
    refine g_X8_21 (y := m8_giveWays) rfl dX8_giveWays_63 (St.i hm) ?_
    refine r_iload_n (y := m8_giveWays) dX8_giveWays_66 rfl rfl ?_
    obtain ⟨hb4, h⟩ := h
    refine r_iald (y := m8_giveWays) (n := 4801) dX8_giveWays_67 (sa_544 (St.i hm)) hb4 ?_
    refine r_istore_n (y := m8_giveWays) (L' := [some (.ref 541), some (.int v1), some (.ref (235 + 3 * jj2)), some (.int (mI (mSetI m (236 + 3 * jj2) (Int32.toNatClampNeg v4) (mI m 545 (Int32.toNatClampNeg v3))) 544 (Int32.toNatClampNeg v3))), some (.int v4)]) dX8_giveWays_68 rfl (Nat.le_of_ble_eq_true rfl) rfl ?_
    refine r_iinc (y := m8_giveWays) (v := (v4 + (-1))) (L' := [some (.ref 541), some (.int v1), some (.ref (235 + 3 * jj2)), some (.int (mI (mSetI m (236 + 3 * jj2) (Int32.toNatClampNeg v4) (mI m 545 (Int32.toNatClampNeg v3))) 544 (Int32.toNatClampNeg v3))), some (.int (v4 + (-1)))]) dX8_giveWays_69 rfl (by rfl) rfl ?_
    refine r_goto (y := m8_giveWays) (tgt := 44) dX8_giveWays_72 (by decide) ?_
    exact h
set_option maxHeartbeats 4000000 in
set_option maxRecDepth 100000 in
theorem w8_keepValue {m : Mm} {K : Option Value ⊕ String → Mm → Prop} (hm : St m) {a0 : Int32}  (h : ((¬ a0 = 0 → K (.inl none) m) ∧ (a0 = 0 → ((10 ≤ (mI m 541 10) → K (.inl none) m) ∧ (¬ 10 ≤ (mI m 541 10) → vp_in (mI m 541 10) 10 ∧ C m1_keep [(.ref (548 + 12 * (Int32.toNatClampNeg (mI m 541 10)))), (.ref 12), (.int (mI m 12 7))] m (fun o m5 => o = .inl none ∧ St m5 ∧ K (.inl none) (mSetI m5 541 10 ((mI m5 541 10) + 1)))))))) : V m8_keepValue 0 [some (.ref 541), some (.int a0)] [] m K := by
  refine r_iload_n (y := m8_keepValue) dX8_keepValue_0 rfl rfl ?_
  refine r_if_ne (y := m8_keepValue) (tgt := 46) dX8_keepValue_1 (by decide) (fun hc1 => ?_) (fun hc1 => ?_)
  · have h := h.1 hc1
    exact r_ret (y := m8_keepValue) dX8_keepValue_46 rfl h
  · have h := h.2 hc1
    refine r_aload_n (y := m8_keepValue) dX8_keepValue_4 rfl rfl ?_
    refine g_X8_43 (y := m8_keepValue) rfl dX8_keepValue_5 hm ?_
    refine r_bipush (y := m8_keepValue) (v := 10) dX8_keepValue_8 (by decide) ?_
    refine r_icmp_ge (y := m8_keepValue) (tgt := 46) dX8_keepValue_10 (by decide) (fun hc2 => ?_) (fun hc2 => ?_)
    · have h := h.1 hc2
      exact r_ret (y := m8_keepValue) dX8_keepValue_46 rfl h
    · have h := h.2 hc2
      refine r_aload_n (y := m8_keepValue) dX8_keepValue_13 rfl rfl ?_
      refine g_X8_11 (y := m8_keepValue) rfl dX8_keepValue_14 hm ?_
      refine r_aload_n (y := m8_keepValue) dX8_keepValue_17 rfl rfl ?_
      refine g_X8_43 (y := m8_keepValue) rfl dX8_keepValue_18 hm ?_
      obtain ⟨hb3, h⟩ := h
      have hl4 := vp_lt hb3
      refine r_aald (y := m8_keepValue) (n := 10) (r := some (548 + 12 * (Int32.toNatClampNeg (mI m 541 10)))) dX8_keepValue_21 (sa_542 hm) (by decide) (by decide) hb3 (sr_fo hm hl4) ?_
      refine r_aload_n (y := m8_keepValue) dX8_keepValue_22 rfl rfl ?_
      refine g_X8_46 (y := m8_keepValue) rfl dX8_keepValue_23 hm ?_
      refine r_aload_n (y := m8_keepValue) dX8_keepValue_26 rfl rfl ?_
      refine g_X8_46 (y := m8_keepValue) rfl dX8_keepValue_27 hm ?_
      refine g_X8_102 (y := m8_keepValue) rfl dX8_keepValue_30 hm ?_
      refine r_callVN (y := m8_keepValue) (As := [(.ref 12), (.int (mI m 12 7))]) (b := (548 + 12 * (Int32.toNatClampNeg (mI m 541 10)))) (ci := 1) dX8_keepValue_33 rfl k1_keep lm_X8_105 rfl ⟨by decide, by decide⟩ (congrArg Prod.fst (sf_fo (k := 0) hm hl4 (by decide))) (by decide) rfl (Nat.le_of_ble_eq_true rfl) (C.mono h ?_)
      rintro _ m5 ⟨rfl, hm6, h⟩
      refine ⟨none, rfl, ?_⟩
      refine r_aload_n (y := m8_keepValue) dX8_keepValue_36 rfl rfl ?_
      refine r_dup_r (y := m8_keepValue) dX8_keepValue_37 ?_
      refine g_X8_43 (y := m8_keepValue) rfl dX8_keepValue_38 hm6 ?_
      refine r_iconst (y := m8_keepValue) (v := 1) dX8_keepValue_41 (by decide) ?_
      refine r_iadd (y := m8_keepValue) dX8_keepValue_42 ?_
      refine p_X8_43 (y := m8_keepValue) rfl dX8_keepValue_43 hm6 ?_
      exact r_ret (y := m8_keepValue) dX8_keepValue_46 rfl h
set_option maxHeartbeats 4000000 in
set_option maxRecDepth 100000 in
theorem w8_countWithin {m : Mm} {K : Option Value ⊕ String → Mm → Prop} (hm : St m) {e0 ne0 : Nat} {a1 : Int32} (he0 : isExp m e0 ne0) (h : V m8_countWithin 19 [some (.ref 541), some (.ref e0), some (.int a1), some (.ref (235 + 3 * 0)), some (.int 0), some (.int 1), none] [] (mSetI m (235 + 3 * 0) 2 0) K) : V m8_countWithin 0 [some (.ref 541), some (.ref e0), some (.int a1), none, none, none, none] [] m K := by
  refine r_aload_n (y := m8_countWithin) dX8_countWithin_0 rfl rfl ?_
  refine g_X8_46 (y := m8_countWithin) rfl dX8_countWithin_1 hm ?_
  refine g_X8_90 (y := m8_countWithin) rfl dX8_countWithin_4 hm ?_
  refine r_astore_n (y := m8_countWithin) (L' := [some (.ref 541), some (.ref e0), some (.int a1), some (.ref (235 + 3 * 0)), none, none, none]) dX8_countWithin_7 rfl (Nat.le_of_ble_eq_true rfl) rfl ?_
  refine r_aload_n (y := m8_countWithin) dX8_countWithin_8 rfl rfl ?_
  refine r_iconst (y := m8_countWithin) (v := 0) dX8_countWithin_9 (by decide) ?_
  refine p_X8_94 (y := m8_countWithin) (i := 0) rfl dX8_countWithin_10 hm (by decide) ?_
  refine r_iconst (y := m8_countWithin) (v := 0) dX8_countWithin_13 (by decide) ?_
  refine r_istore (y := m8_countWithin) (L' := [some (.ref 541), some (.ref e0), some (.int a1), some (.ref (235 + 3 * 0)), some (.int 0), none, none]) dX8_countWithin_14 (Nat.le_of_ble_eq_true rfl) rfl ?_
  refine r_iconst (y := m8_countWithin) (v := 1) dX8_countWithin_16 (by decide) ?_
  refine r_istore (y := m8_countWithin) (L' := [some (.ref 541), some (.ref e0), some (.int a1), some (.ref (235 + 3 * 0)), some (.int 0), some (.int 1), none]) dX8_countWithin_17 (Nat.le_of_ble_eq_true rfl) rfl ?_
  exact h
set_option maxHeartbeats 4000000 in
set_option maxRecDepth 100000 in
theorem w8_countWithin_19 {m : Mm} {K : Option Value ⊕ String → Mm → Prop} (hm : St m) {ee1 nn1 : Nat} {v2 : Int32} {jj3 : Nat} {v4 : Int32} {v5 : Int32} (hee1 : isExp m ee1 nn1) (hjj3 : jj3 < 102) (h : ((600 ≤ v5 → K (.inl (some (.int (-1)))) m) ∧ (¬ 600 ≤ v5 → C m3_makeRun [(.ref 12), (.ref ee1)] m (fun o m2 => ∃ x4 : Int32, o = .inl (some (.int x4)) ∧ St m2 ∧ ((¬ x4 = 0 → ((¬ x4 = 4 → C m2_advance [(.ref (235 + 3 * jj3))] m2 (fun o m7 => ∃ x9 : Int32, o = .inl (some (.int x9)) ∧ St m7 ∧ ((¬ x9 = 0 → V m8_countWithin 19 [some (.ref 541), some (.ref ee1), some (.int v2), some (.ref (235 + 3 * jj3)), some (.int v4), some (.int (v5 + 1)), some (.int x4)] [] m7 K) ∧ (x9 = 0 → K (.inl (some (.int v4))) m7)))) ∧ (x4 = 4 → ((v2 ≤ (mI m2 (235 + 3 * jj3) 2) → C m2_advance [(.ref (235 + 3 * jj3))] m2 (fun o m12 => ∃ x14 : Int32, o = .inl (some (.int x14)) ∧ St m12 ∧ ((¬ x14 = 0 → V m8_countWithin 19 [some (.ref 541), some (.ref ee1), some (.int v2), some (.ref (235 + 3 * jj3)), some (.int v4), some (.int (v5 + 1)), some (.int x4)] [] m12 K) ∧ (x14 = 0 → K (.inl (some (.int v4))) m12)))) ∧ (¬ v2 ≤ (mI m2 (235 + 3 * jj3) 2) → C m2_deepen [(.ref (235 + 3 * jj3))] m2 (fun o m16 => o = .inl none ∧ St m16 ∧ V m8_countWithin 19 [some (.ref 541), some (.ref ee1), some (.int v2), some (.ref (235 + 3 * jj3)), some (.int v4), some (.int (v5 + 1)), some (.int x4)] [] m16 K)))))) ∧ (x4 = 0 → ((¬ x4 = 4 → C m2_advance [(.ref (235 + 3 * jj3))] m2 (fun o m19 => ∃ x21 : Int32, o = .inl (some (.int x21)) ∧ St m19 ∧ ((¬ x21 = 0 → V m8_countWithin 19 [some (.ref 541), some (.ref ee1), some (.int v2), some (.ref (235 + 3 * jj3)), some (.int (v4 + 1)), some (.int (v5 + 1)), some (.int x4)] [] m19 K) ∧ (x21 = 0 → K (.inl (some (.int (v4 + 1)))) m19)))) ∧ (x4 = 4 → ((v2 ≤ (mI m2 (235 + 3 * jj3) 2) → C m2_advance [(.ref (235 + 3 * jj3))] m2 (fun o m24 => ∃ x26 : Int32, o = .inl (some (.int x26)) ∧ St m24 ∧ ((¬ x26 = 0 → V m8_countWithin 19 [some (.ref 541), some (.ref ee1), some (.int v2), some (.ref (235 + 3 * jj3)), some (.int (v4 + 1)), some (.int (v5 + 1)), some (.int x4)] [] m24 K) ∧ (x26 = 0 → K (.inl (some (.int (v4 + 1)))) m24)))) ∧ (¬ v2 ≤ (mI m2 (235 + 3 * jj3) 2) → C m2_deepen [(.ref (235 + 3 * jj3))] m2 (fun o m28 => o = .inl none ∧ St m28 ∧ V m8_countWithin 19 [some (.ref 541), some (.ref ee1), some (.int v2), some (.ref (235 + 3 * jj3)), some (.int (v4 + 1)), some (.int (v5 + 1)), some (.int x4)] [] m28 K))))))))))) : V m8_countWithin 19 [some (.ref 541), some (.ref ee1), some (.int v2), some (.ref (235 + 3 * jj3)), some (.int v4), some (.int v5), none] [] m K := by
  refine r_iload (y := m8_countWithin) dX8_countWithin_19 rfl ?_
  refine r_sipush (y := m8_countWithin) (v := 600) dX8_countWithin_21 (by decide) ?_
  refine r_icmp_ge (y := m8_countWithin) (tgt := 82) dX8_countWithin_24 (by decide) (fun hc1 => ?_) (fun hc1 => ?_)
  · have h := h.1 hc1
    refine r_iconst (y := m8_countWithin) (v := (-1)) dX8_countWithin_82 (by decide) ?_
    exact r_iret (y := m8_countWithin) dX8_countWithin_83 rfl rfl h
  · have h := h.2 hc1
    refine r_aload_n (y := m8_countWithin) dX8_countWithin_27 rfl rfl ?_
    refine g_X8_46 (y := m8_countWithin) rfl dX8_countWithin_28 hm ?_
    refine r_aload_n (y := m8_countWithin) dX8_countWithin_31 rfl rfl ?_
    refine r_callVN (y := m8_countWithin) (As := [(.ref ee1)]) (b := 12) (ci := 3) dX8_countWithin_32 rfl k3_makeRun lm_X8_68 rfl ⟨by decide, by decide⟩ (so_12 hm) (by decide) rfl (Nat.le_of_ble_eq_true rfl) (C.mono h ?_)
    rintro _ m2 ⟨x4, rfl, hm3, h⟩
    refine ⟨_, rfl, ?_⟩
    refine r_istore (y := m8_countWithin) (L' := [some (.ref 541), some (.ref ee1), some (.int v2), some (.ref (235 + 3 * jj3)), some (.int v4), some (.int v5), some (.int x4)]) dX8_countWithin_35 (Nat.le_of_ble_eq_true rfl) rfl ?_
    refine r_iload (y := m8_countWithin) dX8_countWithin_37 rfl ?_
    refine r_if_ne (y := m8_countWithin) (tgt := 45) dX8_countWithin_39 (by decide) (fun hc5 => ?_) (fun hc5 => ?_)
    · have h := h.1 hc5
      refine r_iload (y := m8_countWithin) dX8_countWithin_45 rfl ?_
      refine r_iconst (y := m8_countWithin) (v := 4) dX8_countWithin_47 (by decide) ?_
      refine r_icmp_ne (y := m8_countWithin) (tgt := 66) dX8_countWithin_48 (by decide) (fun hc6 => ?_) (fun hc6 => ?_)
      · have h := h.1 hc6
        refine r_aload_n (y := m8_countWithin) dX8_countWithin_66 rfl rfl ?_
        refine r_callVN (y := m8_countWithin) (As := []) (b := (235 + 3 * jj3)) (ci := 2) dX8_countWithin_67 rfl k2_advance lm_X8_112 rfl ⟨by decide, by decide⟩ (so_lv hm3 hjj3) (by decide) rfl (Nat.le_of_ble_eq_true rfl) (C.mono h ?_)
        rintro _ m7 ⟨x9, rfl, hm8, h⟩
        refine ⟨_, rfl, ?_⟩
        refine r_if_ne (y := m8_countWithin) (tgt := 76) dX8_countWithin_70 (by decide) (fun hc10 => ?_) (fun hc10 => ?_)
        · have h := h.1 hc10
          refine r_iinc (y := m8_countWithin) (v := (v5 + 1)) (L' := [some (.ref 541), some (.ref ee1), some (.int v2), some (.ref (235 + 3 * jj3)), some (.int v4), some (.int (v5 + 1)), some (.int x4)]) dX8_countWithin_76 rfl (by rfl) rfl ?_
          refine r_goto (y := m8_countWithin) (tgt := 19) dX8_countWithin_79 (by decide) ?_
          exact h
        · have h := h.2 hc10
          refine r_iload (y := m8_countWithin) dX8_countWithin_73 rfl ?_
          exact r_iret (y := m8_countWithin) dX8_countWithin_75 rfl rfl h
      · have h := h.2 hc6
        refine r_aload_n (y := m8_countWithin) dX8_countWithin_51 rfl rfl ?_
        refine g_X8_94 (y := m8_countWithin) (i := jj3) rfl dX8_countWithin_52 hm3 hjj3 ?_
        refine r_iload_n (y := m8_countWithin) dX8_countWithin_55 rfl rfl ?_
        refine r_icmp_ge (y := m8_countWithin) (tgt := 66) dX8_countWithin_56 (by decide) (fun hc11 => ?_) (fun hc11 => ?_)
        · have h := h.1 hc11
          refine r_aload_n (y := m8_countWithin) dX8_countWithin_66 rfl rfl ?_
          refine r_callVN (y := m8_countWithin) (As := []) (b := (235 + 3 * jj3)) (ci := 2) dX8_countWithin_67 rfl k2_advance lm_X8_112 rfl ⟨by decide, by decide⟩ (so_lv hm3 hjj3) (by decide) rfl (Nat.le_of_ble_eq_true rfl) (C.mono h ?_)
          rintro _ m12 ⟨x14, rfl, hm13, h⟩
          refine ⟨_, rfl, ?_⟩
          refine r_if_ne (y := m8_countWithin) (tgt := 76) dX8_countWithin_70 (by decide) (fun hc15 => ?_) (fun hc15 => ?_)
          · have h := h.1 hc15
            refine r_iinc (y := m8_countWithin) (v := (v5 + 1)) (L' := [some (.ref 541), some (.ref ee1), some (.int v2), some (.ref (235 + 3 * jj3)), some (.int v4), some (.int (v5 + 1)), some (.int x4)]) dX8_countWithin_76 rfl (by rfl) rfl ?_
            refine r_goto (y := m8_countWithin) (tgt := 19) dX8_countWithin_79 (by decide) ?_
            exact h
          · have h := h.2 hc15
            refine r_iload (y := m8_countWithin) dX8_countWithin_73 rfl ?_
            exact r_iret (y := m8_countWithin) dX8_countWithin_75 rfl rfl h
        · have h := h.2 hc11
          refine r_aload_n (y := m8_countWithin) dX8_countWithin_59 rfl rfl ?_
          refine r_callVN (y := m8_countWithin) (As := []) (b := (235 + 3 * jj3)) (ci := 2) dX8_countWithin_60 rfl k2_deepen lm_X8_109 rfl ⟨by decide, by decide⟩ (so_lv hm3 hjj3) (by decide) rfl (Nat.le_of_ble_eq_true rfl) (C.mono h ?_)
          rintro _ m16 ⟨rfl, hm17, h⟩
          refine ⟨none, rfl, ?_⟩
          refine r_goto (y := m8_countWithin) (tgt := 76) dX8_countWithin_63 (by decide) ?_
          refine r_iinc (y := m8_countWithin) (v := (v5 + 1)) (L' := [some (.ref 541), some (.ref ee1), some (.int v2), some (.ref (235 + 3 * jj3)), some (.int v4), some (.int (v5 + 1)), some (.int x4)]) dX8_countWithin_76 rfl (by rfl) rfl ?_
          refine r_goto (y := m8_countWithin) (tgt := 19) dX8_countWithin_79 (by decide) ?_
          exact h
    · have h := h.2 hc5
      refine r_iinc (y := m8_countWithin) (v := (v4 + 1)) (L' := [some (.ref 541), some (.ref ee1), some (.int v2), some (.ref (235 + 3 * jj3)), some (.int (v4 + 1)), some (.int v5), some (.int x4)]) dX8_countWithin_42 rfl (by rfl) rfl ?_
      refine r_iload (y := m8_countWithin) dX8_countWithin_45 rfl ?_
      refine r_iconst (y := m8_countWithin) (v := 4) dX8_countWithin_47 (by decide) ?_
      refine r_icmp_ne (y := m8_countWithin) (tgt := 66) dX8_countWithin_48 (by decide) (fun hc18 => ?_) (fun hc18 => ?_)
      · have h := h.1 hc18
        refine r_aload_n (y := m8_countWithin) dX8_countWithin_66 rfl rfl ?_
        refine r_callVN (y := m8_countWithin) (As := []) (b := (235 + 3 * jj3)) (ci := 2) dX8_countWithin_67 rfl k2_advance lm_X8_112 rfl ⟨by decide, by decide⟩ (so_lv hm3 hjj3) (by decide) rfl (Nat.le_of_ble_eq_true rfl) (C.mono h ?_)
        rintro _ m19 ⟨x21, rfl, hm20, h⟩
        refine ⟨_, rfl, ?_⟩
        refine r_if_ne (y := m8_countWithin) (tgt := 76) dX8_countWithin_70 (by decide) (fun hc22 => ?_) (fun hc22 => ?_)
        · have h := h.1 hc22
          refine r_iinc (y := m8_countWithin) (v := (v5 + 1)) (L' := [some (.ref 541), some (.ref ee1), some (.int v2), some (.ref (235 + 3 * jj3)), some (.int (v4 + 1)), some (.int (v5 + 1)), some (.int x4)]) dX8_countWithin_76 rfl (by rfl) rfl ?_
          refine r_goto (y := m8_countWithin) (tgt := 19) dX8_countWithin_79 (by decide) ?_
          exact h
        · have h := h.2 hc22
          refine r_iload (y := m8_countWithin) dX8_countWithin_73 rfl ?_
          exact r_iret (y := m8_countWithin) dX8_countWithin_75 rfl rfl h
      · have h := h.2 hc18
        refine r_aload_n (y := m8_countWithin) dX8_countWithin_51 rfl rfl ?_
        refine g_X8_94 (y := m8_countWithin) (i := jj3) rfl dX8_countWithin_52 hm3 hjj3 ?_
        refine r_iload_n (y := m8_countWithin) dX8_countWithin_55 rfl rfl ?_
        refine r_icmp_ge (y := m8_countWithin) (tgt := 66) dX8_countWithin_56 (by decide) (fun hc23 => ?_) (fun hc23 => ?_)
        · have h := h.1 hc23
          refine r_aload_n (y := m8_countWithin) dX8_countWithin_66 rfl rfl ?_
          refine r_callVN (y := m8_countWithin) (As := []) (b := (235 + 3 * jj3)) (ci := 2) dX8_countWithin_67 rfl k2_advance lm_X8_112 rfl ⟨by decide, by decide⟩ (so_lv hm3 hjj3) (by decide) rfl (Nat.le_of_ble_eq_true rfl) (C.mono h ?_)
          rintro _ m24 ⟨x26, rfl, hm25, h⟩
          refine ⟨_, rfl, ?_⟩
          refine r_if_ne (y := m8_countWithin) (tgt := 76) dX8_countWithin_70 (by decide) (fun hc27 => ?_) (fun hc27 => ?_)
          · have h := h.1 hc27
            refine r_iinc (y := m8_countWithin) (v := (v5 + 1)) (L' := [some (.ref 541), some (.ref ee1), some (.int v2), some (.ref (235 + 3 * jj3)), some (.int (v4 + 1)), some (.int (v5 + 1)), some (.int x4)]) dX8_countWithin_76 rfl (by rfl) rfl ?_
            refine r_goto (y := m8_countWithin) (tgt := 19) dX8_countWithin_79 (by decide) ?_
            exact h
          · have h := h.2 hc27
            refine r_iload (y := m8_countWithin) dX8_countWithin_73 rfl ?_
            exact r_iret (y := m8_countWithin) dX8_countWithin_75 rfl rfl h
        · have h := h.2 hc23
          refine r_aload_n (y := m8_countWithin) dX8_countWithin_59 rfl rfl ?_
          refine r_callVN (y := m8_countWithin) (As := []) (b := (235 + 3 * jj3)) (ci := 2) dX8_countWithin_60 rfl k2_deepen lm_X8_109 rfl ⟨by decide, by decide⟩ (so_lv hm3 hjj3) (by decide) rfl (Nat.le_of_ble_eq_true rfl) (C.mono h ?_)
          rintro _ m28 ⟨rfl, hm29, h⟩
          refine ⟨none, rfl, ?_⟩
          refine r_goto (y := m8_countWithin) (tgt := 76) dX8_countWithin_63 (by decide) ?_
          refine r_iinc (y := m8_countWithin) (v := (v5 + 1)) (L' := [some (.ref 541), some (.ref ee1), some (.int v2), some (.ref (235 + 3 * jj3)), some (.int (v4 + 1)), some (.int (v5 + 1)), some (.int x4)]) dX8_countWithin_76 rfl (by rfl) rfl ?_
          refine r_goto (y := m8_countWithin) (tgt := 19) dX8_countWithin_79 (by decide) ?_
          exact h
