/-! written by gen/drive.py -/
set_option maxHeartbeats 4000000 in
set_option maxRecDepth 100000 in
theorem w12_call__140 {m : Mm} {K : Option Value ⊕ String → Mm → Prop} (hm : St m) {v1 : Int32} {v2 : Int32} {v3 : Int32} {v4 : Int32} {v5 : Int32} {v6 : Int32}  (h : vp_in v2 8 ∧ (((mI m 669 (Int32.toNatClampNeg v2)) ≤ 0 → V m12_call_ 167 [some (.ref 668), some (.int v1), some (.int v2), some (.int v3), some (.int v4), some (.int v5), some (.int v6)] [] m K) ∧ (¬ (mI m 669 (Int32.toNatClampNeg v2)) ≤ 0 → C m12_patternAt [(.int v6), (.int 0)] m (fun o m3 => ∃ x5 : Int32, o = .inl (some (.int x5)) ∧ St m3 ∧ vp_in v1 6000 ∧ C m12_task [(.ref 668), (.int 4), (.int x5), (.int (mI m3 679 (Int32.toNatClampNeg v1))), (.int v1)] m3 (fun o m7 => o = .inl none ∧ St m7 ∧ V m12_call_ 167 [some (.ref 668), some (.int v1), some (.int v2), some (.int v3), some (.int v4), some (.int v5), some (.int v6)] [] m7 K))))) : V m12_call_ 140 [some (.ref 668), some (.int v1), some (.int v2), some (.int v3), some (.int v4), some (.int v5), some (.int v6)] [] m K := by
  refine r_aload_n (y := m12_call_) dX12_call__140 rfl rfl ?_
  refine g_X12_7 (y := m12_call_) rfl dX12_call__141 hm ?_
  refine r_iload_n (y := m12_call_) dX12_call__144 rfl rfl ?_
  obtain ⟨hb1, h⟩ := h
  refine r_iald (y := m12_call_) (n := 8) dX12_call__145 (sa_669 hm) hb1 ?_
  refine r_if_le (y := m12_call_) (tgt := 167) dX12_call__146 (by decide) (fun hc2 => ?_) (fun hc2 => ?_)
  · have h := h.1 hc2
    exact h
  · have h := h.2 hc2
    refine r_aload_n (y := m12_call_) dX12_call__149 rfl rfl ?_
    refine r_iconst (y := m12_call_) (v := 4) dX12_call__150 (by decide) ?_
    refine r_iload (y := m12_call_) dX12_call__151 rfl ?_
    refine r_iconst (y := m12_call_) (v := 0) dX12_call__153 (by decide) ?_
    refine r_callS (y := m12_call_) (As := [(.int v6), (.int 0)]) dX12_call__154 rfl k12_patternAt lm_X12_194 rfl ⟨by decide, by decide⟩ (Nat.le_of_ble_eq_true rfl) (C.mono h ?_)
    rintro _ m3 ⟨x5, rfl, hm4, h⟩
    refine ⟨_, rfl, ?_⟩
    refine r_aload_n (y := m12_call_) dX12_call__157 rfl rfl ?_
    refine g_X12_41 (y := m12_call_) rfl dX12_call__158 hm4 ?_
    refine r_iload_n (y := m12_call_) dX12_call__161 rfl rfl ?_
    obtain ⟨hb6, h⟩ := h
    refine r_iald (y := m12_call_) (n := 6000) dX12_call__162 (sa_679 hm4) hb6 ?_
    refine r_iload_n (y := m12_call_) dX12_call__163 rfl rfl ?_
    refine r_callV (y := m12_call_) (As := [(.int 4), (.int x5), (.int (mI m3 679 (Int32.toNatClampNeg v1))), (.int v1)]) (b := 668) (ci := 12) dX12_call__164 rfl k12_task lm_X12_260 rfl ⟨by decide, by decide⟩ (so_668 hm4) (by decide) rfl (Nat.le_of_ble_eq_true rfl) (C.mono h ?_)
    rintro _ m7 ⟨rfl, hm8, h⟩
    refine ⟨none, rfl, ?_⟩
    exact h
set_option maxHeartbeats 4000000 in
set_option maxRecDepth 100000 in
theorem w12_call__167 {m : Mm} {K : Option Value ⊕ String → Mm → Prop} (hm : St m) {v1 : Int32} {v2 : Int32} {v3 : Int32} {v4 : Int32} {v5 : Int32} {v6 : Int32}  (h : K (.inl none) m) : V m12_call_ 167 [some (.ref 668), some (.int v1), some (.int v2), some (.int v3), some (.int v4), some (.int v5), some (.int v6)] [] m K := by
  exact r_ret (y := m12_call_) dX12_call__167 rfl h
set_option maxHeartbeats 4000000 in
set_option maxRecDepth 100000 in
theorem w12_force {m : Mm} {K : Option Value ⊕ String → Mm → Prop} (hm : St m) {a0 : Int32}  (h : C m12_root [(.ref 668), (.int a0)] m (fun o m1 => ∃ x3 : Int32, o = .inl (some (.int x3)) ∧ St m1 ∧ vp_in x3 6000 ∧ ((¬ (mI m1 677 (Int32.toNatClampNeg x3)) = 2 → vp_in x3 6000 ∧ ((¬ (mI m1 677 (Int32.toNatClampNeg x3)) = 3 → vp_in x3 6000 ∧ (((mI m1 677 (Int32.toNatClampNeg x3)) = 4 → vp_in x3 6000 ∧ ((¬ (mI m1 677 (Int32.toNatClampNeg x3)) = 4 → C m12_task [(.ref 668), (.int 8), (.int x3), (.int 0), (.int 0)] m1 (fun o m12 => o = .inl none ∧ St m12 ∧ vp_in x3 6000 ∧ C m12_task [(.ref 668), (.int 1), (.int (mI m12 680 (Int32.toNatClampNeg x3))), (.int 0), (.int 0)] m12 (fun o m15 => o = .inl none ∧ St m15 ∧ vp_in x3 6000 ∧ C m12_task [(.ref 668), (.int 1), (.int (mI m15 679 (Int32.toNatClampNeg x3))), (.int 0), (.int 0)] m15 (fun o m18 => o = .inl none ∧ St m18 ∧ K (.inl none) m18)))) ∧ ((mI m1 677 (Int32.toNatClampNeg x3)) = 4 → C m12_task [(.ref 668), (.int 7), (.int x3), (.int 0), (.int 0)] m1 (fun o m20 => o = .inl none ∧ St m20 ∧ vp_in x3 6000 ∧ C m12_task [(.ref 668), (.int 1), (.int (mI m20 680 (Int32.toNatClampNeg x3))), (.int 0), (.int 0)] m20 (fun o m23 => o = .inl none ∧ St m23 ∧ vp_in x3 6000 ∧ C m12_task [(.ref 668), (.int 1), (.int (mI m23 679 (Int32.toNatClampNeg x3))), (.int 0), (.int 0)] m23 (fun o m26 => o = .inl none ∧ St m26 ∧ K (.inl none) m26)))))) ∧ (¬ (mI m1 677 (Int32.toNatClampNeg x3)) = 4 → vp_in x3 6000 ∧ ((¬ (mI m1 677 (Int32.toNatClampNeg x3)) = 5 → vp_in x3 6000 ∧ ((¬ (mI m1 677 (Int32.toNatClampNeg x3)) = 6 → K (.inl none) m1) ∧ ((mI m1 677 (Int32.toNatClampNeg x3)) = 6 → C m12_beginSome [(.ref 668), (.int x3)] m1 (fun o m32 => o = .inl none ∧ St m32 ∧ K (.inl none) m32)))) ∧ ((mI m1 677 (Int32.toNatClampNeg x3)) = 5 → vp_in x3 6000 ∧ ((¬ (mI m1 677 (Int32.toNatClampNeg x3)) = 4 → C m12_task [(.ref 668), (.int 8), (.int x3), (.int 0), (.int 0)] m1 (fun o m36 => o = .inl none ∧ St m36 ∧ vp_in x3 6000 ∧ C m12_task [(.ref 668), (.int 1), (.int (mI m36 680 (Int32.toNatClampNeg x3))), (.int 0), (.int 0)] m36 (fun o m39 => o = .inl none ∧ St m39 ∧ vp_in x3 6000 ∧ C m12_task [(.ref 668), (.int 1), (.int (mI m39 679 (Int32.toNatClampNeg x3))), (.int 0), (.int 0)] m39 (fun o m42 => o = .inl none ∧ St m42 ∧ K (.inl none) m42)))) ∧ ((mI m1 677 (Int32.toNatClampNeg x3)) = 4 → C m12_task [(.ref 668), (.int 7), (.int x3), (.int 0), (.int 0)] m1 (fun o m44 => o = .inl none ∧ St m44 ∧ vp_in x3 6000 ∧ C m12_task [(.ref 668), (.int 1), (.int (mI m44 680 (Int32.toNatClampNeg x3))), (.int 0), (.int 0)] m44 (fun o m47 => o = .inl none ∧ St m47 ∧ vp_in x3 6000 ∧ C m12_task [(.ref 668), (.int 1), (.int (mI m47 679 (Int32.toNatClampNeg x3))), (.int 0), (.int 0)] m47 (fun o m50 => o = .inl none ∧ St m50 ∧ K (.inl none) m50)))))))))) ∧ ((mI m1 677 (Int32.toNatClampNeg x3)) = 3 → vp_in x3 6000 ∧ C m12_decide [(.ref 668), (.int (mI m1 681 (Int32.toNatClampNeg x3))), (.int 2)] m1 (fun o m53 => ∃ x55 : Int32, o = .inl (some (.int x55)) ∧ St m53 ∧ ((¬ (mI m53 668 29) = 0 → K (.inl none) m53) ∧ ((mI m53 668 29) = 0 → ((¬ x55 = 0 → vp_in x3 6000 ∧ C m12_become [(.ref 668), (.int x3), (.int (mI m53 680 (Int32.toNatClampNeg x3)))] m53 (fun o m59 => o = .inl none ∧ St m59 ∧ C m12_task [(.ref 668), (.int 0), (.int (mI m53 680 (Int32.toNatClampNeg x3))), (.int 0), (.int 0)] m59 (fun o m61 => o = .inl none ∧ St m61 ∧ K (.inl none) m61))) ∧ (x55 = 0 → vp_in x3 6000 ∧ C m12_become [(.ref 668), (.int x3), (.int (mI m53 679 (Int32.toNatClampNeg x3)))] m53 (fun o m64 => o = .inl none ∧ St m64 ∧ C m12_task [(.ref 668), (.int 0), (.int (mI m53 679 (Int32.toNatClampNeg x3))), (.int 0), (.int 0)] m64 (fun o m66 => o = .inl none ∧ St m66 ∧ K (.inl none) m66)))))))))) ∧ ((mI m1 677 (Int32.toNatClampNeg x3)) = 2 → C m12_call_ [(.ref 668), (.int x3)] m1 (fun o m68 => o = .inl none ∧ St m68 ∧ K (.inl none) m68))))) : V m12_force 0 [some (.ref 668), some (.int a0), none, none, none] [] m K := by
  refine r_aload_n (y := m12_force) dX12_force_0 rfl rfl ?_
  refine r_iload_n (y := m12_force) dX12_force_1 rfl rfl ?_
  refine r_callV (y := m12_force) (As := [(.int a0)]) (b := 668) (ci := 12) dX12_force_2 rfl k12_root lm_X12_280 rfl ⟨by decide, by decide⟩ (so_668 hm) (by decide) rfl (Nat.le_of_ble_eq_true rfl) (C.mono h ?_)
  rintro _ m1 ⟨x3, rfl, hm2, h⟩
  refine ⟨_, rfl, ?_⟩
  refine r_istore_n (y := m12_force) (L' := [some (.ref 668), some (.int a0), some (.int x3), none, none]) dX12_force_5 rfl (Nat.le_of_ble_eq_true rfl) rfl ?_
  refine r_aload_n (y := m12_force) dX12_force_6 rfl rfl ?_
  refine g_X12_35 (y := m12_force) rfl dX12_force_7 hm2 ?_
  refine r_iload_n (y := m12_force) dX12_force_10 rfl rfl ?_
  obtain ⟨hb4, h⟩ := h
  refine r_iald (y := m12_force) (n := 6000) dX12_force_11 (sa_677 hm2) hb4 ?_
  refine r_iconst (y := m12_force) (v := 2) dX12_force_12 (by decide) ?_
  refine r_icmp_ne (y := m12_force) (tgt := 24) dX12_force_13 (by decide) (fun hc5 => ?_) (fun hc5 => ?_)
  · have h := h.1 hc5
    refine r_aload_n (y := m12_force) dX12_force_24 rfl rfl ?_
    refine g_X12_35 (y := m12_force) rfl dX12_force_25 hm2 ?_
    refine r_iload_n (y := m12_force) dX12_force_28 rfl rfl ?_
    obtain ⟨hb6, h⟩ := h
    refine r_iald (y := m12_force) (n := 6000) dX12_force_29 (sa_677 hm2) hb6 ?_
    refine r_iconst (y := m12_force) (v := 3) dX12_force_30 (by decide) ?_
    refine r_icmp_ne (y := m12_force) (tgt := 93) dX12_force_31 (by decide) (fun hc7 => ?_) (fun hc7 => ?_)
    · have h := h.1 hc7
      refine r_aload_n (y := m12_force) dX12_force_93 rfl rfl ?_
      refine g_X12_35 (y := m12_force) rfl dX12_force_94 hm2 ?_
      refine r_iload_n (y := m12_force) dX12_force_97 rfl rfl ?_
      obtain ⟨hb8, h⟩ := h
      refine r_iald (y := m12_force) (n := 6000) dX12_force_98 (sa_677 hm2) hb8 ?_
      refine r_iconst (y := m12_force) (v := 4) dX12_force_99 (by decide) ?_
      refine r_icmp_eq (y := m12_force) (tgt := 113) dX12_force_100 (by decide) (fun hc9 => ?_) (fun hc9 => ?_)
      · have h := h.1 hc9
        refine r_aload_n (y := m12_force) dX12_force_113 rfl rfl ?_
        refine r_aload_n (y := m12_force) dX12_force_114 rfl rfl ?_
        refine g_X12_35 (y := m12_force) rfl dX12_force_115 hm2 ?_
        refine r_iload_n (y := m12_force) dX12_force_118 rfl rfl ?_
        obtain ⟨hb10, h⟩ := h
        refine r_iald (y := m12_force) (n := 6000) dX12_force_119 (sa_677 hm2) hb10 ?_
        refine r_iconst (y := m12_force) (v := 4) dX12_force_120 (by decide) ?_
        refine r_icmp_ne (y := m12_force) (tgt := 129) dX12_force_121 (by decide) (fun hc11 => ?_) (fun hc11 => ?_)
        · have h := h.1 hc11
          refine r_bipush (y := m12_force) (v := 8) dX12_force_129 (by decide) ?_
          refine r_iload_n (y := m12_force) dX12_force_131 rfl rfl ?_
          refine r_iconst (y := m12_force) (v := 0) dX12_force_132 (by decide) ?_
          refine r_iconst (y := m12_force) (v := 0) dX12_force_133 (by decide) ?_
          refine r_callV (y := m12_force) (As := [(.int 8), (.int x3), (.int 0), (.int 0)]) (b := 668) (ci := 12) dX12_force_134 rfl k12_task lm_X12_260 rfl ⟨by decide, by decide⟩ (so_668 hm2) (by decide) rfl (Nat.le_of_ble_eq_true rfl) (C.mono h ?_)
          rintro _ m12 ⟨rfl, hm13, h⟩
          refine ⟨none, rfl, ?_⟩
          refine r_aload_n (y := m12_force) dX12_force_137 rfl rfl ?_
          refine r_iconst (y := m12_force) (v := 1) dX12_force_138 (by decide) ?_
          refine r_aload_n (y := m12_force) dX12_force_139 rfl rfl ?_
          refine g_X12_44 (y := m12_force) rfl dX12_force_140 hm13 ?_
          refine r_iload_n (y := m12_force) dX12_force_143 rfl rfl ?_
          obtain ⟨hb14, h⟩ := h
          refine r_iald (y := m12_force) (n := 6000) dX12_force_144 (sa_680 hm13) hb14 ?_
          refine r_iconst (y := m12_force) (v := 0) dX12_force_145 (by decide) ?_
          refine r_iconst (y := m12_force) (v := 0) dX12_force_146 (by decide) ?_
          refine r_callV (y := m12_force) (As := [(.int 1), (.int (mI m12 680 (Int32.toNatClampNeg x3))), (.int 0), (.int 0)]) (b := 668) (ci := 12) dX12_force_147 rfl k12_task lm_X12_260 rfl ⟨by decide, by decide⟩ (so_668 hm13) (by decide) rfl (Nat.le_of_ble_eq_true rfl) (C.mono h ?_)
          rintro _ m15 ⟨rfl, hm16, h⟩
          refine ⟨none, rfl, ?_⟩
          refine r_aload_n (y := m12_force) dX12_force_150 rfl rfl ?_
          refine r_iconst (y := m12_force) (v := 1) dX12_force_151 (by decide) ?_
          refine r_aload_n (y := m12_force) dX12_force_152 rfl rfl ?_
          refine g_X12_41 (y := m12_force) rfl dX12_force_153 hm16 ?_
          refine r_iload_n (y := m12_force) dX12_force_156 rfl rfl ?_
          obtain ⟨hb17, h⟩ := h
          refine r_iald (y := m12_force) (n := 6000) dX12_force_157 (sa_679 hm16) hb17 ?_
          refine r_iconst (y := m12_force) (v := 0) dX12_force_158 (by decide) ?_
          refine r_iconst (y := m12_force) (v := 0) dX12_force_159 (by decide) ?_
          refine r_callV (y := m12_force) (As := [(.int 1), (.int (mI m15 679 (Int32.toNatClampNeg x3))), (.int 0), (.int 0)]) (b := 668) (ci := 12) dX12_force_160 rfl k12_task lm_X12_260 rfl ⟨by decide, by decide⟩ (so_668 hm16) (by decide) rfl (Nat.le_of_ble_eq_true rfl) (C.mono h ?_)
          rintro _ m18 ⟨rfl, hm19, h⟩
          refine ⟨none, rfl, ?_⟩
          refine r_goto (y := m12_force) (tgt := 182) dX12_force_163 (by decide) ?_
          exact r_ret (y := m12_force) dX12_force_182 rfl h
        · have h := h.2 hc11
          refine r_bipush (y := m12_force) (v := 7) dX12_force_124 (by decide) ?_
          refine r_goto (y := m12_force) (tgt := 131) dX12_force_126 (by decide) ?_
          refine r_iload_n (y := m12_force) dX12_force_131 rfl rfl ?_
          refine r_iconst (y := m12_force) (v := 0) dX12_force_132 (by decide) ?_
          refine r_iconst (y := m12_force) (v := 0) dX12_force_133 (by decide) ?_
          refine r_callV (y := m12_force) (As := [(.int 7), (.int x3), (.int 0), (.int 0)]) (b := 668) (ci := 12) dX12_force_134 rfl k12_task lm_X12_260 rfl ⟨by decide, by decide⟩ (so_668 hm2) (by decide) rfl (Nat.le_of_ble_eq_true rfl) (C.mono h ?_)
          rintro _ m20 ⟨rfl, hm21, h⟩
          refine ⟨none, rfl, ?_⟩
          refine r_aload_n (y := m12_force) dX12_force_137 rfl rfl ?_
          refine r_iconst (y := m12_force) (v := 1) dX12_force_138 (by decide) ?_
          refine r_aload_n (y := m12_force) dX12_force_139 rfl rfl ?_
          refine g_X12_44 (y := m12_force) rfl dX12_force_140 hm21 ?_
          refine r_iload_n (y := m12_force) dX12_force_143 rfl rfl ?_
          obtain ⟨hb22, h⟩ := h
          refine r_iald (y := m12_force) (n := 6000) dX12_force_144 (sa_680 hm21) hb22 ?_
          refine r_iconst (y := m12_force) (v := 0) dX12_force_145 (by decide) ?_
          refine r_iconst (y := m12_force) (v := 0) dX12_force_146 (by decide) ?_
          refine r_callV (y := m12_force) (As := [(.int 1), (.int (mI m20 680 (Int32.toNatClampNeg x3))), (.int 0), (.int 0)]) (b := 668) (ci := 12) dX12_force_147 rfl k12_task lm_X12_260 rfl ⟨by decide, by decide⟩ (so_668 hm21) (by decide) rfl (Nat.le_of_ble_eq_true rfl) (C.mono h ?_)
          rintro _ m23 ⟨rfl, hm24, h⟩
          refine ⟨none, rfl, ?_⟩
          refine r_aload_n (y := m12_force) dX12_force_150 rfl rfl ?_
          refine r_iconst (y := m12_force) (v := 1) dX12_force_151 (by decide) ?_
          refine r_aload_n (y := m12_force) dX12_force_152 rfl rfl ?_
          refine g_X12_41 (y := m12_force) rfl dX12_force_153 hm24 ?_
          refine r_iload_n (y := m12_force) dX12_force_156 rfl rfl ?_
          obtain ⟨hb25, h⟩ := h
          refine r_iald (y := m12_force) (n := 6000) dX12_force_157 (sa_679 hm24) hb25 ?_
          refine r_iconst (y := m12_force) (v := 0) dX12_force_158 (by decide) ?_
          refine r_iconst (y := m12_force) (v := 0) dX12_force_159 (by decide) ?_
          refine r_callV (y := m12_force) (As := [(.int 1), (.int (mI m23 679 (Int32.toNatClampNeg x3))), (.int 0), (.int 0)]) (b := 668) (ci := 12) dX12_force_160 rfl k12_task lm_X12_260 rfl ⟨by decide, by decide⟩ (so_668 hm24) (by decide) rfl (Nat.le_of_ble_eq_true rfl) (C.mono h ?_)
          rintro _ m26 ⟨rfl, hm27, h⟩
          refine ⟨none, rfl, ?_⟩
          refine r_goto (y := m12_force) (tgt := 182) dX12_force_163 (by decide) ?_
          exact r_ret (y := m12_force) dX12_force_182 rfl h
      · have h := h.2 hc9
        refine r_aload_n (y := m12_force) dX12_force_103 rfl rfl ?_
        refine g_X12_35 (y := m12_force) rfl dX12_force_104 hm2 ?_
        refine r_iload_n (y := m12_force) dX12_force_107 rfl rfl ?_
        obtain ⟨hb28, h⟩ := h
        refine r_iald (y := m12_force) (n := 6000) dX12_force_108 (sa_677 hm2) hb28 ?_
        refine r_iconst (y := m12_force) (v := 5) dX12_force_109 (by decide) ?_
        refine r_icmp_ne (y := m12_force) (tgt := 166) dX12_force_110 (by decide) (fun hc29 => ?_) (fun hc29 => ?_)
        · have h := h.1 hc29
          refine r_aload_n (y := m12_force) dX12_force_166 rfl rfl ?_
          refine g_X12_35 (y := m12_force) rfl dX12_force_167 hm2 ?_
          refine r_iload_n (y := m12_force) dX12_force_170 rfl rfl ?_
          obtain ⟨hb30, h⟩ := h
          refine r_iald (y := m12_force) (n := 6000) dX12_force_171 (sa_677 hm2) hb30 ?_
          refine r_bipush (y := m12_force) (v := 6) dX12_force_172 (by decide) ?_
          refine r_icmp_ne (y := m12_force) (tgt := 182) dX12_force_174 (by decide) (fun hc31 => ?_) (fun hc31 => ?_)
          · have h := h.1 hc31
            exact r_ret (y := m12_force) dX12_force_182 rfl h
          · have h := h.2 hc31
            refine r_aload_n (y := m12_force) dX12_force_177 rfl rfl ?_
            refine r_iload_n (y := m12_force) dX12_force_178 rfl rfl ?_
            refine r_callV (y := m12_force) (As := [(.int x3)]) (b := 668) (ci := 12) dX12_force_179 rfl k12_beginSome lm_X12_289 rfl ⟨by decide, by decide⟩ (so_668 hm2) (by decide) rfl (Nat.le_of_ble_eq_true rfl) (C.mono h ?_)
            rintro _ m32 ⟨rfl, hm33, h⟩
            refine ⟨none, rfl, ?_⟩
            exact r_ret (y := m12_force) dX12_force_182 rfl h
        · have h := h.2 hc29
          refine r_aload_n (y := m12_force) dX12_force_113 rfl rfl ?_
          refine r_aload_n (y := m12_force) dX12_force_114 rfl rfl ?_
          refine g_X12_35 (y := m12_force) rfl dX12_force_115 hm2 ?_
          refine r_iload_n (y := m12_force) dX12_force_118 rfl rfl ?_
          obtain ⟨hb34, h⟩ := h
          refine r_iald (y := m12_force) (n := 6000) dX12_force_119 (sa_677 hm2) hb34 ?_
          refine r_iconst (y := m12_force) (v := 4) dX12_force_120 (by decide) ?_
          refine r_icmp_ne (y := m12_force) (tgt := 129) dX12_force_121 (by decide) (fun hc35 => ?_) (fun hc35 => ?_)
          · have h := h.1 hc35
            refine r_bipush (y := m12_force) (v := 8) dX12_force_129 (by decide) ?_
            refine r_iload_n (y := m12_force) dX12_force_131 rfl rfl ?_
            refine r_iconst (y := m12_force) (v := 0) dX12_force_132 (by decide) ?_
            refine r_iconst (y := m12_force) (v := 0) dX12_force_133 (by decide) ?_
            refine r_callV (y := m12_force) (As := [(.int 8), (.int x3), (.int 0), (.int 0)]) (b := 668) (ci := 12) dX12_force_134 rfl k12_task lm_X12_260 rfl ⟨by decide, by decide⟩ (so_668 hm2) (by decide) rfl (Nat.le_of_ble_eq_true rfl) (C.mono h ?_)
            rintro _ m36 ⟨rfl, hm37, h⟩
            refine ⟨none, rfl, ?_⟩
            refine r_aload_n (y := m12_force) dX12_force_137 rfl rfl ?_
            refine r_iconst (y := m12_force) (v := 1) dX12_force_138 (by decide) ?_
            refine r_aload_n (y := m12_force) dX12_force_139 rfl rfl ?_
            refine g_X12_44 (y := m12_force) rfl dX12_force_140 hm37 ?_
            refine r_iload_n (y := m12_force) dX12_force_143 rfl rfl ?_
            obtain ⟨hb38, h⟩ := h
            refine r_iald (y := m12_force) (n := 6000) dX12_force_144 (sa_680 hm37) hb38 ?_
            refine r_iconst (y := m12_force) (v := 0) dX12_force_145 (by decide) ?_
            refine r_iconst (y := m12_force) (v := 0) dX12_force_146 (by decide) ?_
            refine r_callV (y := m12_force) (As := [(.int 1), (.int (mI m36 680 (Int32.toNatClampNeg x3))), (.int 0), (.int 0)]) (b := 668) (ci := 12) dX12_force_147 rfl k12_task lm_X12_260 rfl ⟨by decide, by decide⟩ (so_668 hm37) (by decide) rfl (Nat.le_of_ble_eq_true rfl) (C.mono h ?_)
            rintro _ m39 ⟨rfl, hm40, h⟩
            refine ⟨none, rfl, ?_⟩
            refine r_aload_n (y := m12_force) dX12_force_150 rfl rfl ?_
            refine r_iconst (y := m12_force) (v := 1) dX12_force_151 (by decide) ?_
            refine r_aload_n (y := m12_force) dX12_force_152 rfl rfl ?_
            refine g_X12_41 (y := m12_force) rfl dX12_force_153 hm40 ?_
            refine r_iload_n (y := m12_force) dX12_force_156 rfl rfl ?_
            obtain ⟨hb41, h⟩ := h
            refine r_iald (y := m12_force) (n := 6000) dX12_force_157 (sa_679 hm40) hb41 ?_
            refine r_iconst (y := m12_force) (v := 0) dX12_force_158 (by decide) ?_
            refine r_iconst (y := m12_force) (v := 0) dX12_force_159 (by decide) ?_
            refine r_callV (y := m12_force) (As := [(.int 1), (.int (mI m39 679 (Int32.toNatClampNeg x3))), (.int 0), (.int 0)]) (b := 668) (ci := 12) dX12_force_160 rfl k12_task lm_X12_260 rfl ⟨by decide, by decide⟩ (so_668 hm40) (by decide) rfl (Nat.le_of_ble_eq_true rfl) (C.mono h ?_)
            rintro _ m42 ⟨rfl, hm43, h⟩
            refine ⟨none, rfl, ?_⟩
            refine r_goto (y := m12_force) (tgt := 182) dX12_force_163 (by decide) ?_
            exact r_ret (y := m12_force) dX12_force_182 rfl h
          · have h := h.2 hc35
            refine r_bipush (y := m12_force) (v := 7) dX12_force_124 (by decide) ?_
            refine r_goto (y := m12_force) (tgt := 131) dX12_force_126 (by decide) ?_
            refine r_iload_n (y := m12_force) dX12_force_131 rfl rfl ?_
            refine r_iconst (y := m12_force) (v := 0) dX12_force_132 (by decide) ?_
            refine r_iconst (y := m12_force) (v := 0) dX12_force_133 (by decide) ?_
            refine r_callV (y := m12_force) (As := [(.int 7), (.int x3), (.int 0), (.int 0)]) (b := 668) (ci := 12) dX12_force_134 rfl k12_task lm_X12_260 rfl ⟨by decide, by decide⟩ (so_668 hm2) (by decide) rfl (Nat.le_of_ble_eq_true rfl) (C.mono h ?_)
            rintro _ m44 ⟨rfl, hm45, h⟩
            refine ⟨none, rfl, ?_⟩
            refine r_aload_n (y := m12_force) dX12_force_137 rfl rfl ?_
            refine r_iconst (y := m12_force) (v := 1) dX12_force_138 (by decide) ?_
            refine r_aload_n (y := m12_force) dX12_force_139 rfl rfl ?_
            refine g_X12_44 (y := m12_force) rfl dX12_force_140 hm45 ?_
            refine r_iload_n (y := m12_force) dX12_force_143 rfl rfl ?_
            obtain ⟨hb46, h⟩ := h
            refine r_iald (y := m12_force) (n := 6000) dX12_force_144 (sa_680 hm45) hb46 ?_
            refine r_iconst (y := m12_force) (v := 0) dX12_force_145 (by decide) ?_
            refine r_iconst (y := m12_force) (v := 0) dX12_force_146 (by decide) ?_
            refine r_callV (y := m12_force) (As := [(.int 1), (.int (mI m44 680 (Int32.toNatClampNeg x3))), (.int 0), (.int 0)]) (b := 668) (ci := 12) dX12_force_147 rfl k12_task lm_X12_260 rfl ⟨by decide, by decide⟩ (so_668 hm45) (by decide) rfl (Nat.le_of_ble_eq_true rfl) (C.mono h ?_)
            rintro _ m47 ⟨rfl, hm48, h⟩
            refine ⟨none, rfl, ?_⟩
            refine r_aload_n (y := m12_force) dX12_force_150 rfl rfl ?_
            refine r_iconst (y := m12_force) (v := 1) dX12_force_151 (by decide) ?_
            refine r_aload_n (y := m12_force) dX12_force_152 rfl rfl ?_
            refine g_X12_41 (y := m12_force) rfl dX12_force_153 hm48 ?_
            refine r_iload_n (y := m12_force) dX12_force_156 rfl rfl ?_
            obtain ⟨hb49, h⟩ := h
            refine r_iald (y := m12_force) (n := 6000) dX12_force_157 (sa_679 hm48) hb49 ?_
            refine r_iconst (y := m12_force) (v := 0) dX12_force_158 (by decide) ?_
            refine r_iconst (y := m12_force) (v := 0) dX12_force_159 (by decide) ?_
            refine r_callV (y := m12_force) (As := [(.int 1), (.int (mI m47 679 (Int32.toNatClampNeg x3))), (.int 0), (.int 0)]) (b := 668) (ci := 12) dX12_force_160 rfl k12_task lm_X12_260 rfl ⟨by decide, by decide⟩ (so_668 hm48) (by decide) rfl (Nat.le_of_ble_eq_true rfl) (C.mono h ?_)
            rintro _ m50 ⟨rfl, hm51, h⟩
            refine ⟨none, rfl, ?_⟩
            refine r_goto (y := m12_force) (tgt := 182) dX12_force_163 (by decide) ?_
            exact r_ret (y := m12_force) dX12_force_182 rfl h
    · have h := h.2 hc7
      refine r_aload_n (y := m12_force) dX12_force_34 rfl rfl ?_
      refine r_aload_n (y := m12_force) dX12_force_35 rfl rfl ?_
      refine g_X12_47 (y := m12_force) rfl dX12_force_36 hm2 ?_
      refine r_iload_n (y := m12_force) dX12_force_39 rfl rfl ?_
      obtain ⟨hb52, h⟩ := h
      refine r_iald (y := m12_force) (n := 6000) dX12_force_40 (sa_681 hm2) hb52 ?_
      refine r_iconst (y := m12_force) (v := 2) dX12_force_41 (by decide) ?_
      refine r_callV (y := m12_force) (As := [(.int (mI m1 681 (Int32.toNatClampNeg x3))), (.int 2)]) (b := 668) (ci := 12) dX12_force_42 rfl k12_decide lm_X12_273 rfl ⟨by decide, by decide⟩ (so_668 hm2) (by decide) rfl (Nat.le_of_ble_eq_true rfl) (C.mono h ?_)
      rintro _ m53 ⟨x55, rfl, hm54, h⟩
      refine ⟨_, rfl, ?_⟩
      refine r_istore_n (y := m12_force) (L' := [some (.ref 668), some (.int a0), some (.int x3), some (.int x55), none]) dX12_force_45 rfl (Nat.le_of_ble_eq_true rfl) rfl ?_
      refine r_aload_n (y := m12_force) dX12_force_46 rfl rfl ?_
      refine g_X12_245 (y := m12_force) rfl dX12_force_47 hm54 ?_
      refine r_if_ne (y := m12_force) (tgt := 90) dX12_force_50 (by decide) (fun hc56 => ?_) (fun hc56 => ?_)
      · have h := h.1 hc56
        refine r_goto (y := m12_force) (tgt := 182) dX12_force_90 (by decide) ?_
        exact r_ret (y := m12_force) dX12_force_182 rfl h
      · have h := h.2 hc56
        refine r_iload_n (y := m12_force) dX12_force_53 rfl rfl ?_
        refine r_if_ne (y := m12_force) (tgt := 66) dX12_force_54 (by decide) (fun hc57 => ?_) (fun hc57 => ?_)
        · have h := h.1 hc57
          refine r_aload_n (y := m12_force) dX12_force_66 rfl rfl ?_
          refine g_X12_44 (y := m12_force) rfl dX12_force_67 hm54 ?_
          refine r_iload_n (y := m12_force) dX12_force_70 rfl rfl ?_
          obtain ⟨hb58, h⟩ := h
          refine r_iald (y := m12_force) (n := 6000) dX12_force_71 (sa_680 hm54) hb58 ?_
          refine r_istore (y := m12_force) (L' := [some (.ref 668), some (.int a0), some (.int x3), some (.int x55), some (.int (mI m53 680 (Int32.toNatClampNeg x3)))]) dX12_force_72 (Nat.le_of_ble_eq_true rfl) rfl ?_
          refine r_aload_n (y := m12_force) dX12_force_74 rfl rfl ?_
          refine r_iload_n (y := m12_force) dX12_force_75 rfl rfl ?_
          refine r_iload (y := m12_force) dX12_force_76 rfl ?_
          refine r_callV (y := m12_force) (As := [(.int x3), (.int (mI m53 680 (Int32.toNatClampNeg x3)))]) (b := 668) (ci := 12) dX12_force_78 rfl k12_become lm_X12_286 rfl ⟨by decide, by decide⟩ (so_668 hm54) (by decide) rfl (Nat.le_of_ble_eq_true rfl) (C.mono h ?_)
          rintro _ m59 ⟨rfl, hm60, h⟩
          refine ⟨none, rfl, ?_⟩
          refine r_aload_n (y := m12_force) dX12_force_81 rfl rfl ?_
          refine r_iconst (y := m12_force) (v := 0) dX12_force_82 (by decide) ?_
          refine r_iload (y := m12_force) dX12_force_83 rfl ?_
          refine r_iconst (y := m12_force) (v := 0) dX12_force_85 (by decide) ?_
          refine r_iconst (y := m12_force) (v := 0) dX12_force_86 (by decide) ?_
          refine r_callV (y := m12_force) (As := [(.int 0), (.int (mI m53 680 (Int32.toNatClampNeg x3))), (.int 0), (.int 0)]) (b := 668) (ci := 12) dX12_force_87 rfl k12_task lm_X12_260 rfl ⟨by decide, by decide⟩ (so_668 hm60) (by decide) rfl (Nat.le_of_ble_eq_true rfl) (C.mono h ?_)
          rintro _ m61 ⟨rfl, hm62, h⟩
          refine ⟨none, rfl, ?_⟩
          refine r_goto (y := m12_force) (tgt := 182) dX12_force_90 (by decide) ?_
          exact r_ret (y := m12_force) dX12_force_182 rfl h
        · have h := h.2 hc57
          refine r_aload_n (y := m12_force) dX12_force_57 rfl rfl ?_
          refine g_X12_41 (y := m12_force) rfl dX12_force_58 hm54 ?_
          refine r_iload_n (y := m12_force) dX12_force_61 rfl rfl ?_
          obtain ⟨hb63, h⟩ := h
          refine r_iald (y := m12_force) (n := 6000) dX12_force_62 (sa_679 hm54) hb63 ?_
          refine r_goto (y := m12_force) (tgt := 72) dX12_force_63 (by decide) ?_
          refine r_istore (y := m12_force) (L' := [some (.ref 668), some (.int a0), some (.int x3), some (.int x55), some (.int (mI m53 679 (Int32.toNatClampNeg x3)))]) dX12_force_72 (Nat.le_of_ble_eq_true rfl) rfl ?_
          refine r_aload_n (y := m12_force) dX12_force_74 rfl rfl ?_
          refine r_iload_n (y := m12_force) dX12_force_75 rfl rfl ?_
          refine r_iload (y := m12_force) dX12_force_76 rfl ?_
          refine r_callV (y := m12_force) (As := [(.int x3), (.int (mI m53 679 (Int32.toNatClampNeg x3)))]) (b := 668) (ci := 12) dX12_force_78 rfl k12_become lm_X12_286 rfl ⟨by decide, by decide⟩ (so_668 hm54) (by decide) rfl (Nat.le_of_ble_eq_true rfl) (C.mono h ?_)
          rintro _ m64 ⟨rfl, hm65, h⟩
          refine ⟨none, rfl, ?_⟩
          refine r_aload_n (y := m12_force) dX12_force_81 rfl rfl ?_
          refine r_iconst (y := m12_force) (v := 0) dX12_force_82 (by decide) ?_
          refine r_iload (y := m12_force) dX12_force_83 rfl ?_
          refine r_iconst (y := m12_force) (v := 0) dX12_force_85 (by decide) ?_
          refine r_iconst (y := m12_force) (v := 0) dX12_force_86 (by decide) ?_
          refine r_callV (y := m12_force) (As := [(.int 0), (.int (mI m53 679 (Int32.toNatClampNeg x3))), (.int 0), (.int 0)]) (b := 668) (ci := 12) dX12_force_87 rfl k12_task lm_X12_260 rfl ⟨by decide, by decide⟩ (so_668 hm65) (by decide) rfl (Nat.le_of_ble_eq_true rfl) (C.mono h ?_)
          rintro _ m66 ⟨rfl, hm67, h⟩
          refine ⟨none, rfl, ?_⟩
          refine r_goto (y := m12_force) (tgt := 182) dX12_force_90 (by decide) ?_
          exact r_ret (y := m12_force) dX12_force_182 rfl h
  · have h := h.2 hc5
    refine r_aload_n (y := m12_force) dX12_force_16 rfl rfl ?_
    refine r_iload_n (y := m12_force) dX12_force_17 rfl rfl ?_
    refine r_callV (y := m12_force) (As := [(.int x3)]) (b := 668) (ci := 12) dX12_force_18 rfl k12_call_ lm_X12_283 rfl ⟨by decide, by decide⟩ (so_668 hm2) (by decide) rfl (Nat.le_of_ble_eq_true rfl) (C.mono h ?_)
    rintro _ m68 ⟨rfl, hm69, h⟩
    refine ⟨none, rfl, ?_⟩
    refine r_goto (y := m12_force) (tgt := 182) dX12_force_21 (by decide) ?_
    exact r_ret (y := m12_force) dX12_force_182 rfl h
set_option maxHeartbeats 4000000 in
set_option maxRecDepth 100000 in
theorem w12_match {m : Mm} {K : Option Value ⊕ String → Mm → Prop} (hm : St m) {a0 : Int32} {a1 : Int32} {a2 : Int32}  (h : vp_in a0 876 ∧ ((10 ≤ (mI m 676 (Int32.toNatClampNeg a0)) → C m12_task [(.ref 668), (.int 5), (.int a0), (.int a1), (.int a2)] m (fun o m3 => o = .inl none ∧ St m3 ∧ C m12_task [(.ref 668), (.int 0), (.int a1), (.int 0), (.int 0)] m3 (fun o m5 => o = .inl none ∧ St m5 ∧ K (.inl none) m5))) ∧ (¬ 10 ≤ (mI m 676 (Int32.toNatClampNeg a0)) → vp_in a2 6000 ∧ vp_in a0 876 ∧ vp_in ((6 * (mI m 682 (Int32.toNatClampNeg a2))) + (mI m 676 (Int32.toNatClampNeg a0))) 1200 ∧ K (.inl none) (mSetI m 685 (Int32.toNatClampNeg ((6 * (mI m 682 (Int32.toNatClampNeg a2))) + (mI m 676 (Int32.toNatClampNeg a0)))) a1)))) : V m12_match 0 [some (.ref 668), some (.int a0), some (.int a1), some (.int a2)] [] m K := by
  refine r_aload_n (y := m12_match) dX12_match_0 rfl rfl ?_
  refine g_X12_32 (y := m12_match) rfl dX12_match_1 hm ?_
  refine r_iload_n (y := m12_match) dX12_match_4 rfl rfl ?_
  obtain ⟨hb1, h⟩ := h
  refine r_iald (y := m12_match) (n := 876) dX12_match_5 (sa_676 hm) hb1 ?_
  refine r_bipush (y := m12_match) (v := 10) dX12_match_6 (by decide) ?_
  refine r_icmp_ge (y := m12_match) (tgt := 36) dX12_match_8 (by decide) (fun hc2 => ?_) (fun hc2 => ?_)
  · have h := h.1 hc2
    refine r_aload_n (y := m12_match) dX12_match_36 rfl rfl ?_
    refine r_iconst (y := m12_match) (v := 5) dX12_match_37 (by decide) ?_
    refine r_iload_n (y := m12_match) dX12_match_38 rfl rfl ?_
    refine r_iload_n (y := m12_match) dX12_match_39 rfl rfl ?_
    refine r_iload_n (y := m12_match) dX12_match_40 rfl rfl ?_
    refine r_callV (y := m12_match) (As := [(.int 5), (.int a0), (.int a1), (.int a2)]) (b := 668) (ci := 12) dX12_match_41 rfl k12_task lm_X12_260 rfl ⟨by decide, by decide⟩ (so_668 hm) (by decide) rfl (Nat.le_of_ble_eq_true rfl) (C.mono h ?_)
    rintro _ m3 ⟨rfl, hm4, h⟩
    refine ⟨none, rfl, ?_⟩
    refine r_aload_n (y := m12_match) dX12_match_44 rfl rfl ?_
    refine r_iconst (y := m12_match) (v := 0) dX12_match_45 (by decide) ?_
    refine r_iload_n (y := m12_match) dX12_match_46 rfl rfl ?_
    refine r_iconst (y := m12_match) (v := 0) dX12_match_47 (by decide) ?_
    refine r_iconst (y := m12_match) (v := 0) dX12_match_48 (by decide) ?_
    refine r_callV (y := m12_match) (As := [(.int 0), (.int a1), (.int 0), (.int 0)]) (b := 668) (ci := 12) dX12_match_49 rfl k12_task lm_X12_260 rfl ⟨by decide, by decide⟩ (so_668 hm4) (by decide) rfl (Nat.le_of_ble_eq_true rfl) (C.mono h ?_)
    rintro _ m5 ⟨rfl, hm6, h⟩
    refine ⟨none, rfl, ?_⟩
    exact r_ret (y := m12_match) dX12_match_52 rfl h
  · have h := h.2 hc2
    refine r_aload_n (y := m12_match) dX12_match_11 rfl rfl ?_
    refine g_X12_59 (y := m12_match) rfl dX12_match_12 hm ?_
    refine r_bipush (y := m12_match) (v := 6) dX12_match_15 (by decide) ?_
    refine r_aload_n (y := m12_match) dX12_match_17 rfl rfl ?_
    refine g_X12_50 (y := m12_match) rfl dX12_match_18 hm ?_
    refine r_iload_n (y := m12_match) dX12_match_21 rfl rfl ?_
    obtain ⟨hb7, h⟩ := h
    refine r_iald (y := m12_match) (n := 6000) dX12_match_22 (sa_682 hm) hb7 ?_
    refine r_imul (y := m12_match) dX12_match_23 ?_
    refine r_aload_n (y := m12_match) dX12_match_24 rfl rfl ?_
    refine g_X12_32 (y := m12_match) rfl dX12_match_25 hm ?_
    refine r_iload_n (y := m12_match) dX12_match_28 rfl rfl ?_
    obtain ⟨hb8, h⟩ := h
    refine r_iald (y := m12_match) (n := 876) dX12_match_29 (sa_676 hm) hb8 ?_
    refine r_iadd (y := m12_match) dX12_match_30 ?_
    refine r_iload_n (y := m12_match) dX12_match_31 rfl rfl ?_
    obtain ⟨hb9, h⟩ := h
    refine r_iast (y := m12_match) (n := 1200) dX12_match_32 (sa_685 hm) hb9 ?_
    refine r_goto (y := m12_match) (tgt := 52) dX12_match_33 (by decide) ?_
    exact r_ret (y := m12_match) dX12_match_52 rfl h
set_option maxHeartbeats 4000000 in
set_option maxRecDepth 100000 in
theorem w12_matchData {m : Mm} {K : Option Value ⊕ String → Mm → Prop} (hm : St m) {a0 : Int32} {a1 : Int32} {a2 : Int32}  (h : C m12_root [(.ref 668), (.int a1)] m (fun o m1 => ∃ x3 : Int32, o = .inl (some (.int x3)) ∧ St m1 ∧ vp_in a0 876 ∧ vp_in x3 6000 ∧ ((¬ (mI m1 677 (Int32.toNatClampNeg x3)) = 0 → V m12_matchData 70 [some (.ref 668), some (.int a0), some (.int a1), some (.int a2), some (.int x3), some (.int ((mI m1 676 (Int32.toNatClampNeg a0)) - 10)), some (.int (((mI m1 676 (Int32.toNatClampNeg a0)) - 10) / 2)), none, none] [] m1 K) ∧ ((mI m1 677 (Int32.toNatClampNeg x3)) = 0 → vp_in a2 6000 ∧ vp_in (mI m1 678 (Int32.toNatClampNeg a2)) 8 ∧ ((¬ (mI m1 670 (Int32.toNatClampNeg (mI m1 678 (Int32.toNatClampNeg a2)))) = 0 → V m12_matchData 64 [some (.ref 668), some (.int a0), some (.int a1), some (.int a2), some (.int x3), some (.int ((mI m1 676 (Int32.toNatClampNeg a0)) - 10)), some (.int (((mI m1 676 (Int32.toNatClampNeg a0)) - 10) / 2)), none, none] [] m1 K) ∧ ((mI m1 670 (Int32.toNatClampNeg (mI m1 678 (Int32.toNatClampNeg a2)))) = 0 → vp_in x3 6000 ∧ vp_in a2 6000 ∧ (((mI m1 681 (Int32.toNatClampNeg x3)) = (mI m1 681 (Int32.toNatClampNeg a2)) → V m12_matchData 70 [some (.ref 668), some (.int a0), some (.int a1), some (.int a2), some (.int x3), some (.int ((mI m1 676 (Int32.toNatClampNeg a0)) - 10)), some (.int (((mI m1 676 (Int32.toNatClampNeg a0)) - 10) / 2)), none, none] [] m1 K) ∧ (¬ (mI m1 681 (Int32.toNatClampNeg x3)) = (mI m1 681 (Int32.toNatClampNeg a2)) → V m12_matchData 64 [some (.ref 668), some (.int a0), some (.int a1), some (.int a2), some (.int x3), some (.int ((mI m1 676 (Int32.toNatClampNeg a0)) - 10)), some (.int (((mI m1 676 (Int32.toNatClampNeg a0)) - 10) / 2)), none, none] [] m1 K)))))))) : V m12_matchData 0 [some (.ref 668), some (.int a0), some (.int a1), some (.int a2), none, none, none, none, none] [] m K := by
  refine r_aload_n (y := m12_matchData) dX12_matchData_0 rfl rfl ?_
  refine r_iload_n (y := m12_matchData) dX12_matchData_1 rfl rfl ?_
  refine r_callV (y := m12_matchData) (As := [(.int a1)]) (b := 668) (ci := 12) dX12_matchData_2 rfl k12_root lm_X12_280 rfl ⟨by decide, by decide⟩ (so_668 hm) (by decide) rfl (Nat.le_of_ble_eq_true rfl) (C.mono h ?_)
  rintro _ m1 ⟨x3, rfl, hm2, h⟩
  refine ⟨_, rfl, ?_⟩
  refine r_istore (y := m12_matchData) (L' := [some (.ref 668), some (.int a0), some (.int a1), some (.int a2), some (.int x3), none, none, none, none]) dX12_matchData_5 (Nat.le_of_ble_eq_true rfl) rfl ?_
  refine r_aload_n (y := m12_matchData) dX12_matchData_7 rfl rfl ?_
  refine g_X12_32 (y := m12_matchData) rfl dX12_matchData_8 hm2 ?_
  refine r_iload_n (y := m12_matchData) dX12_matchData_11 rfl rfl ?_
  obtain ⟨hb4, h⟩ := h
  refine r_iald (y := m12_matchData) (n := 876) dX12_matchData_12 (sa_676 hm2) hb4 ?_
  refine r_bipush (y := m12_matchData) (v := 10) dX12_matchData_13 (by decide) ?_
  refine r_isub (y := m12_matchData) dX12_matchData_15 ?_
  refine r_istore (y := m12_matchData) (L' := [some (.ref 668), some (.int a0), some (.int a1), some (.int a2), some (.int x3), some (.int ((mI m1 676 (Int32.toNatClampNeg a0)) - 10)), none, none, none]) dX12_matchData_16 (Nat.le_of_ble_eq_true rfl) rfl ?_
  refine r_iload (y := m12_matchData) dX12_matchData_18 rfl ?_
  refine r_iconst (y := m12_matchData) (v := 2) dX12_matchData_20 (by decide) ?_
  refine r_idiv (y := m12_matchData) dX12_matchData_21 (by decide) ?_
  refine r_istore (y := m12_matchData) (L' := [some (.ref 668), some (.int a0), some (.int a1), some (.int a2), some (.int x3), some (.int ((mI m1 676 (Int32.toNatClampNeg a0)) - 10)), some (.int (((mI m1 676 (Int32.toNatClampNeg a0)) - 10) / 2)), none, none]) dX12_matchData_22 (Nat.le_of_ble_eq_true rfl) rfl ?_
  refine r_aload_n (y := m12_matchData) dX12_matchData_24 rfl rfl ?_
  refine g_X12_35 (y := m12_matchData) rfl dX12_matchData_25 hm2 ?_
  refine r_iload (y := m12_matchData) dX12_matchData_28 rfl ?_
  obtain ⟨hb5, h⟩ := h
  refine r_iald (y := m12_matchData) (n := 6000) dX12_matchData_30 (sa_677 hm2) hb5 ?_
  refine r_if_ne (y := m12_matchData) (tgt := 70) dX12_matchData_31 (by decide) (fun hc6 => ?_) (fun hc6 => ?_)
  · have h := h.1 hc6
    exact h
  · have h := h.2 hc6
    refine r_aload_n (y := m12_matchData) dX12_matchData_34 rfl rfl ?_
    refine g_X12_13 (y := m12_matchData) rfl dX12_matchData_35 hm2 ?_
    refine r_aload_n (y := m12_matchData) dX12_matchData_38 rfl rfl ?_
    refine g_X12_38 (y := m12_matchData) rfl dX12_matchData_39 hm2 ?_
    refine r_iload_n (y := m12_matchData) dX12_matchData_42 rfl rfl ?_
    obtain ⟨hb7, h⟩ := h
    refine r_iald (y := m12_matchData) (n := 6000) dX12_matchData_43 (sa_678 hm2) hb7 ?_
    obtain ⟨hb8, h⟩ := h
    refine r_zald (y := m12_matchData) (n := 8) dX12_matchData_44 (sa_670 hm2) hb8 ?_
    refine r_if_ne (y := m12_matchData) (tgt := 64) dX12_matchData_45 (by decide) (fun hc9 => ?_) (fun hc9 => ?_)
    · have h := h.1 hc9
      exact h
    · have h := h.2 hc9
      refine r_aload_n (y := m12_matchData) dX12_matchData_48 rfl rfl ?_
      refine g_X12_47 (y := m12_matchData) rfl dX12_matchData_49 hm2 ?_
      refine r_iload (y := m12_matchData) dX12_matchData_52 rfl ?_
      obtain ⟨hb10, h⟩ := h
      refine r_iald (y := m12_matchData) (n := 6000) dX12_matchData_54 (sa_681 hm2) hb10 ?_
      refine r_aload_n (y := m12_matchData) dX12_matchData_55 rfl rfl ?_
      refine g_X12_47 (y := m12_matchData) rfl dX12_matchData_56 hm2 ?_
      refine r_iload_n (y := m12_matchData) dX12_matchData_59 rfl rfl ?_
      obtain ⟨hb11, h⟩ := h
      refine r_iald (y := m12_matchData) (n := 6000) dX12_matchData_60 (sa_681 hm2) hb11 ?_
      refine r_icmp_eq (y := m12_matchData) (tgt := 70) dX12_matchData_61 (by decide) (fun hc12 => ?_) (fun hc12 => ?_)
      · have h := h.1 hc12
        exact h
      · have h := h.2 hc12
        exact h
set_option maxHeartbeats 4000000 in
set_option maxRecDepth 100000 in
theorem w12_matchData_70 {m : Mm} {K : Option Value ⊕ String → Mm → Prop} (hm : St m) {v1 : Int32} {v2 : Int32} {v3 : Int32} {v4 : Int32} {v5 : Int32} {v6 : Int32}  (h : vp_in v4 6000 ∧ ((¬ (mI m 677 (Int32.toNatClampNeg v4)) = 0 → V m12_matchData 155 [some (.ref 668), some (.int v1), some (.int v2), some (.int v3), some (.int v4), some (.int v5), some (.int v6), none, none] [] m K) ∧ ((mI m 677 (Int32.toNatClampNeg v4)) = 0 → C m12_becomeData [(.ref 668), (.int v4), (.int v5)] m (fun o m3 => o = .inl none ∧ St m3 ∧ ((v6 ≤ 0 → ((v6 ≤ 1 → vp_in v4 6000 ∧ vp_in v4 6000 ∧ V m12_matchData 155 [some (.ref 668), some (.int v1), some (.int v2), some (.int v3), some (.int v4), some (.int v5), some (.int v6), some (.int (-1)), some (.int (-1))] [] (mSetI (mSetI m3 679 (Int32.toNatClampNeg v4) (-1)) 680 (Int32.toNatClampNeg v4) (-1)) K) ∧ (¬ v6 ≤ 1 → vp_in v4 6000 ∧ C m12_newThing [(.ref 668), (.int 0), (.int 0), (.int (mI m3 681 (Int32.toNatClampNeg v4)))] m3 (fun o m10 => ∃ x12 : Int32, o = .inl (some (.int x12)) ∧ St m10 ∧ vp_in v4 6000 ∧ vp_in v4 6000 ∧ V m12_matchData 155 [some (.ref 668), some (.int v1), some (.int v2), some (.int v3), some (.int v4), some (.int v5), some (.int v6), some (.int (-1)), some (.int x12)] [] (mSetI (mSetI m10 679 (Int32.toNatClampNeg v4) (-1)) 680 (Int32.toNatClampNeg v4) x12) K)))) ∧ (¬ v6 ≤ 0 → vp_in v4 6000 ∧ C m12_newThing [(.ref 668), (.int 0), (.int 0), (.int (mI m3 681 (Int32.toNatClampNeg v4)))] m3 (fun o m16 => ∃ x18 : Int32, o = .inl (some (.int x18)) ∧ St m16 ∧ ((v6 ≤ 1 → vp_in v4 6000 ∧ vp_in v4 6000 ∧ V m12_matchData 155 [some (.ref 668), some (.int v1), some (.int v2), some (.int v3), some (.int v4), some (.int v5), some (.int v6), some (.int x18), some (.int (-1))] [] (mSetI (mSetI m16 679 (Int32.toNatClampNeg v4) x18) 680 (Int32.toNatClampNeg v4) (-1)) K) ∧ (¬ v6 ≤ 1 → vp_in v4 6000 ∧ C m12_newThing [(.ref 668), (.int 0), (.int 0), (.int (mI m16 681 (Int32.toNatClampNeg v4)))] m16 (fun o m23 => ∃ x25 : Int32, o = .inl (some (.int x25)) ∧ St m23 ∧ vp_in v4 6000 ∧ vp_in v4 6000 ∧ V m12_matchData 155 [some (.ref 668), some (.int v1), some (.int v2), some (.int v3), some (.int v4), some (.int v5), some (.int v6), some (.int x18), some (.int x25)] [] (mSetI (mSetI m23 679 (Int32.toNatClampNeg v4) x18) 680 (Int32.toNatClampNeg v4) x25) K)))))))))) : V m12_matchData 70 [some (.ref 668), some (.int v1), some (.int v2), some (.int v3), some (.int v4), some (.int v5), some (.int v6), none, none] [] m K := by
  refine r_aload_n (y := m12_matchData) dX12_matchData_70 rfl rfl ?_
  refine g_X12_35 (y := m12_matchData) rfl dX12_matchData_71 hm ?_
  refine r_iload (y := m12_matchData) dX12_matchData_74 rfl ?_
  obtain ⟨hb1, h⟩ := h
  refine r_iald (y := m12_matchData) (n := 6000) dX12_matchData_76 (sa_677 hm) hb1 ?_
  refine r_if_ne (y := m12_matchData) (tgt := 155) dX12_matchData_77 (by decide) (fun hc2 => ?_) (fun hc2 => ?_)
  · have h := h.1 hc2
    exact h
  · have h := h.2 hc2
    refine r_aload_n (y := m12_matchData) dX12_matchData_80 rfl rfl ?_
    refine r_iload (y := m12_matchData) dX12_matchData_81 rfl ?_
    refine r_iload (y := m12_matchData) dX12_matchData_83 rfl ?_
    refine r_callV (y := m12_matchData) (As := [(.int v4), (.int v5)]) (b := 668) (ci := 12) dX12_matchData_85 rfl k12_becomeData lm_X12_267 rfl ⟨by decide, by decide⟩ (so_668 hm) (by decide) rfl (Nat.le_of_ble_eq_true rfl) (C.mono h ?_)
    rintro _ m3 ⟨rfl, hm4, h⟩
    refine ⟨none, rfl, ?_⟩
    refine r_iload (y := m12_matchData) dX12_matchData_88 rfl ?_
    refine r_if_le (y := m12_matchData) (tgt := 109) dX12_matchData_90 (by decide) (fun hc5 => ?_) (fun hc5 => ?_)
    · have h := h.1 hc5
      refine r_iconst (y := m12_matchData) (v := (-1)) dX12_matchData_109 (by decide) ?_
      refine r_istore (y := m12_matchData) (L' := [some (.ref 668), some (.int v1), some (.int v2), some (.int v3), some (.int v4), some (.int v5), some (.int v6), some (.int (-1)), none]) dX12_matchData_110 (Nat.le_of_ble_eq_true rfl) rfl ?_
      refine r_iload (y := m12_matchData) dX12_matchData_112 rfl ?_
      refine r_iconst (y := m12_matchData) (v := 1) dX12_matchData_114 (by decide) ?_
      refine r_icmp_le (y := m12_matchData) (tgt := 134) dX12_matchData_115 (by decide) (fun hc6 => ?_) (fun hc6 => ?_)
      · have h := h.1 hc6
        refine r_iconst (y := m12_matchData) (v := (-1)) dX12_matchData_134 (by decide) ?_
        refine r_istore (y := m12_matchData) (L' := [some (.ref 668), some (.int v1), some (.int v2), some (.int v3), some (.int v4), some (.int v5), some (.int v6), some (.int (-1)), some (.int (-1))]) dX12_matchData_135 (Nat.le_of_ble_eq_true rfl) rfl ?_
        refine r_aload_n (y := m12_matchData) dX12_matchData_137 rfl rfl ?_
        refine g_X12_41 (y := m12_matchData) rfl dX12_matchData_138 hm4 ?_
        refine r_iload (y := m12_matchData) dX12_matchData_141 rfl ?_
        refine r_iload (y := m12_matchData) dX12_matchData_143 rfl ?_
        obtain ⟨hb7, h⟩ := h
        refine r_iast (y := m12_matchData) (n := 6000) dX12_matchData_145 (sa_679 hm4) hb7 ?_
        refine r_aload_n (y := m12_matchData) dX12_matchData_146 rfl rfl ?_
        refine g_X12_44 (y := m12_matchData) rfl dX12_matchData_147 (St.i hm4) ?_
        refine r_iload (y := m12_matchData) dX12_matchData_150 rfl ?_
        refine r_iload (y := m12_matchData) dX12_matchData_152 rfl ?_
        obtain ⟨hb8, h⟩ := h
        refine r_iast (y := m12_matchData) (n := 6000) dX12_matchData_154 (sa_680 (St.i hm4)) hb8 ?_
        exact h
      · have h := h.2 hc6
        refine r_aload_n (y := m12_matchData) dX12_matchData_118 rfl rfl ?_
        refine r_iconst (y := m12_matchData) (v := 0) dX12_matchData_119 (by decide) ?_
        refine r_iconst (y := m12_matchData) (v := 0) dX12_matchData_120 (by decide) ?_
        refine r_aload_n (y := m12_matchData) dX12_matchData_121 rfl rfl ?_
        refine g_X12_47 (y := m12_matchData) rfl dX12_matchData_122 hm4 ?_
        refine r_iload (y := m12_matchData) dX12_matchData_125 rfl ?_
        obtain ⟨hb9, h⟩ := h
        refine r_iald (y := m12_matchData) (n := 6000) dX12_matchData_127 (sa_681 hm4) hb9 ?_
        refine r_callV (y := m12_matchData) (As := [(.int 0), (.int 0), (.int (mI m3 681 (Int32.toNatClampNeg v4)))]) (b := 668) (ci := 12) dX12_matchData_128 rfl k12_newThing lm_X12_233 rfl ⟨by decide, by decide⟩ (so_668 hm4) (by decide) rfl (Nat.le_of_ble_eq_true rfl) (C.mono h ?_)
        rintro _ m10 ⟨x12, rfl, hm11, h⟩
        refine ⟨_, rfl, ?_⟩
        refine r_goto (y := m12_matchData) (tgt := 135) dX12_matchData_131 (by decide) ?_
        refine r_istore (y := m12_matchData) (L' := [some (.ref 668), some (.int v1), some (.int v2), some (.int v3), some (.int v4), some (.int v5), some (.int v6), some (.int (-1)), some (.int x12)]) dX12_matchData_135 (Nat.le_of_ble_eq_true rfl) rfl ?_
        refine r_aload_n (y := m12_matchData) dX12_matchData_137 rfl rfl ?_
        refine g_X12_41 (y := m12_matchData) rfl dX12_matchData_138 hm11 ?_
        refine r_iload (y := m12_matchData) dX12_matchData_141 rfl ?_
        refine r_iload (y := m12_matchData) dX12_matchData_143 rfl ?_
        obtain ⟨hb13, h⟩ := h
        refine r_iast (y := m12_matchData) (n := 6000) dX12_matchData_145 (sa_679 hm11) hb13 ?_
        refine r_aload_n (y := m12_matchData) dX12_matchData_146 rfl rfl ?_
        refine g_X12_44 (y := m12_matchData) rfl dX12_matchData_147 (St.i hm11) ?_
        refine r_iload (y := m12_matchData) dX12_matchData_150 rfl ?_
        refine r_iload (y := m12_matchData) dX12_matchData_152 rfl ?_
        obtain ⟨hb14, h⟩ := h
        refine r_iast (y := m12_matchData) (n := 6000) dX12_matchData_154 (sa_680 (St.i hm11)) hb14 ?_
        exact h
    · have h := h.2 hc5
      refine r_aload_n (y := m12_matchData) dX12_matchData_93 rfl rfl ?_
      refine r_iconst (y := m12_matchData) (v := 0) dX12_matchData_94 (by decide) ?_
      refine r_iconst (y := m12_matchData) (v := 0) dX12_matchData_95 (by decide) ?_
      refine r_aload_n (y := m12_matchData) dX12_matchData_96 rfl rfl ?_
      refine g_X12_47 (y := m12_matchData) rfl dX12_matchData_97 hm4 ?_
      refine r_iload (y := m12_matchData) dX12_matchData_100 rfl ?_
      obtain ⟨hb15, h⟩ := h
      refine r_iald (y := m12_matchData) (n := 6000) dX12_matchData_102 (sa_681 hm4) hb15 ?_
      refine r_callV (y := m12_matchData) (As := [(.int 0), (.int 0), (.int (mI m3 681 (Int32.toNatClampNeg v4)))]) (b := 668) (ci := 12) dX12_matchData_103 rfl k12_newThing lm_X12_233 rfl ⟨by decide, by decide⟩ (so_668 hm4) (by decide) rfl (Nat.le_of_ble_eq_true rfl) (C.mono h ?_)
      rintro _ m16 ⟨x18, rfl, hm17, h⟩
      refine ⟨_, rfl, ?_⟩
      refine r_goto (y := m12_matchData) (tgt := 110) dX12_matchData_106 (by decide) ?_
      refine r_istore (y := m12_matchData) (L' := [some (.ref 668), some (.int v1), some (.int v2), some (.int v3), some (.int v4), some (.int v5), some (.int v6), some (.int x18), none]) dX12_matchData_110 (Nat.le_of_ble_eq_true rfl) rfl ?_
      refine r_iload (y := m12_matchData) dX12_matchData_112 rfl ?_
      refine r_iconst (y := m12_matchData) (v := 1) dX12_matchData_114 (by decide) ?_
      refine r_icmp_le (y := m12_matchData) (tgt := 134) dX12_matchData_115 (by decide) (fun hc19 => ?_) (fun hc19 => ?_)
      · have h := h.1 hc19
        refine r_iconst (y := m12_matchData) (v := (-1)) dX12_matchData_134 (by decide) ?_
        refine r_istore (y := m12_matchData) (L' := [some (.ref 668), some (.int v1), some (.int v2), some (.int v3), some (.int v4), some (.int v5), some (.int v6), some (.int x18), some (.int (-1))]) dX12_matchData_135 (Nat.le_of_ble_eq_true rfl) rfl ?_
        refine r_aload_n (y := m12_matchData) dX12_matchData_137 rfl rfl ?_
        refine g_X12_41 (y := m12_matchData) rfl dX12_matchData_138 hm17 ?_
        refine r_iload (y := m12_matchData) dX12_matchData_141 rfl ?_
        refine r_iload (y := m12_matchData) dX12_matchData_143 rfl ?_
        obtain ⟨hb20, h⟩ := h
        refine r_iast (y := m12_matchData) (n := 6000) dX12_matchData_145 (sa_679 hm17) hb20 ?_
        refine r_aload_n (y := m12_matchData) dX12_matchData_146 rfl rfl ?_
        refine g_X12_44 (y := m12_matchData) rfl dX12_matchData_147 (St.i hm17) ?_
        refine r_iload (y := m12_matchData) dX12_matchData_150 rfl ?_
        refine r_iload (y := m12_matchData) dX12_matchData_152 rfl ?_
        obtain ⟨hb21, h⟩ := h
        refine r_iast (y := m12_matchData) (n := 6000) dX12_matchData_154 (sa_680 (St.i hm17)) hb21 ?_
        exact h
      · have h := h.2 hc19
        refine r_aload_n (y := m12_matchData) dX12_matchData_118 rfl rfl ?_
        refine r_iconst (y := m12_matchData) (v := 0) dX12_matchData_119 (by decide) ?_
        refine r_iconst (y := m12_matchData) (v := 0) dX12_matchData_120 (by decide) ?_
        refine r_aload_n (y := m12_matchData) dX12_matchData_121 rfl rfl ?_
        refine g_X12_47 (y := m12_matchData) rfl dX12_matchData_122 hm17 ?_
        refine r_iload (y := m12_matchData) dX12_matchData_125 rfl ?_
        obtain ⟨hb22, h⟩ := h
        refine r_iald (y := m12_matchData) (n := 6000) dX12_matchData_127 (sa_681 hm17) hb22 ?_
        refine r_callV (y := m12_matchData) (As := [(.int 0), (.int 0), (.int (mI m16 681 (Int32.toNatClampNeg v4)))]) (b := 668) (ci := 12) dX12_matchData_128 rfl k12_newThing lm_X12_233 rfl ⟨by decide, by decide⟩ (so_668 hm17) (by decide) rfl (Nat.le_of_ble_eq_true rfl) (C.mono h ?_)
        rintro _ m23 ⟨x25, rfl, hm24, h⟩
        refine ⟨_, rfl, ?_⟩
        refine r_goto (y := m12_matchData) (tgt := 135) dX12_matchData_131 (by decide) ?_
        refine r_istore (y := m12_matchData) (L' := [some (.ref 668), some (.int v1), some (.int v2), some (.int v3), some (.int v4), some (.int v5), some (.int v6), some (.int x18), some (.int x25)]) dX12_matchData_135 (Nat.le_of_ble_eq_true rfl) rfl ?_
        refine r_aload_n (y := m12_matchData) dX12_matchData_137 rfl rfl ?_
        refine g_X12_41 (y := m12_matchData) rfl dX12_matchData_138 hm24 ?_
        refine r_iload (y := m12_matchData) dX12_matchData_141 rfl ?_
        refine r_iload (y := m12_matchData) dX12_matchData_143 rfl ?_
        obtain ⟨hb26, h⟩ := h
        refine r_iast (y := m12_matchData) (n := 6000) dX12_matchData_145 (sa_679 hm24) hb26 ?_
        refine r_aload_n (y := m12_matchData) dX12_matchData_146 rfl rfl ?_
        refine g_X12_44 (y := m12_matchData) rfl dX12_matchData_147 (St.i hm24) ?_
        refine r_iload (y := m12_matchData) dX12_matchData_150 rfl ?_
        refine r_iload (y := m12_matchData) dX12_matchData_152 rfl ?_
        obtain ⟨hb27, h⟩ := h
        refine r_iast (y := m12_matchData) (n := 6000) dX12_matchData_154 (sa_680 (St.i hm24)) hb27 ?_
        exact h
set_option maxHeartbeats 4000000 in
set_option maxRecDepth 100000 in
theorem w12_matchData_64 {m : Mm} {K : Option Value ⊕ String → Mm → Prop} (hm : St m) {v1 : Int32} {v2 : Int32} {v3 : Int32} {v4 : Int32} {v5 : Int32} {v6 : Int32}  (h : K (.inl none) (mSetI m 668 29 3)) : V m12_matchData 64 [some (.ref 668), some (.int v1), some (.int v2), some (.int v3), some (.int v4), some (.int v5), some (.int v6), none, none] [] m K := by
  refine r_aload_n (y := m12_matchData) dX12_matchData_64 rfl rfl ?_
  refine r_iconst (y := m12_matchData) (v := 3) dX12_matchData_65 (by decide) ?_
  refine p_X12_245 (y := m12_matchData) rfl dX12_matchData_66 hm ?_
  exact r_ret (y := m12_matchData) dX12_matchData_69 rfl h
set_option maxHeartbeats 4000000 in
set_option maxRecDepth 100000 in
theorem w12_matchData_155 {m : Mm} {K : Option Value ⊕ String → Mm → Prop} (hm : St m) {v1 : Int32} {v2 : Int32} {v3 : Int32} {v4 : Int32} {v5 : Int32} {v6 : Int32}  (h : vp_in v4 6000 ∧ (((mI m 678 (Int32.toNatClampNeg v4)) = v5 → ((v6 ≤ 1 → V m12_matchData 204 [some (.ref 668), some (.int v1), some (.int v2), some (.int v3), some (.int v4), some (.int v5), some (.int v6), none, none] [] m K) ∧ (¬ v6 ≤ 1 → C m12_endOf [(.ref 668), (.int (v1 + 1))] m (fun o m4 => ∃ x6 : Int32, o = .inl (some (.int x6)) ∧ St m4 ∧ vp_in v4 6000 ∧ C m12_task [(.ref 668), (.int 4), (.int x6), (.int (mI m4 680 (Int32.toNatClampNeg v4))), (.int v3)] m4 (fun o m8 => o = .inl none ∧ St m8 ∧ V m12_matchData 204 [some (.ref 668), some (.int v1), some (.int v2), some (.int v3), some (.int v4), some (.int v5), some (.int v6), none, none] [] m8 K))))) ∧ (¬ (mI m 678 (Int32.toNatClampNeg v4)) = v5 → vp_in v3 6000 ∧ C m12_fail [(.ref 668), (.int (mI m 681 (Int32.toNatClampNeg v3)))] m (fun o m11 => o = .inl none ∧ St m11 ∧ K (.inl none) m11)))) : V m12_matchData 155 [some (.ref 668), some (.int v1), some (.int v2), some (.int v3), some (.int v4), some (.int v5), some (.int v6), none, none] [] m K := by
  refine r_aload_n (y := m12_matchData) dX12_matchData_155 rfl rfl ?_
  refine g_X12_38 (y := m12_matchData) rfl dX12_matchData_156 hm ?_
  refine r_iload (y := m12_matchData) dX12_matchData_159 rfl ?_
  obtain ⟨hb1, h⟩ := h
  refine r_iald (y := m12_matchData) (n := 6000) dX12_matchData_161 (sa_678 hm) hb1 ?_
  refine r_iload (y := m12_matchData) dX12_matchData_162 rfl ?_
  refine r_icmp_eq (y := m12_matchData) (tgt := 178) dX12_matchData_164 (by decide) (fun hc2 => ?_) (fun hc2 => ?_)
  · have h := h.1 hc2
    refine r_iload (y := m12_matchData) dX12_matchData_178 rfl ?_
    refine r_iconst (y := m12_matchData) (v := 1) dX12_matchData_180 (by decide) ?_
    refine r_icmp_le (y := m12_matchData) (tgt := 204) dX12_matchData_181 (by decide) (fun hc3 => ?_) (fun hc3 => ?_)
    · have h := h.1 hc3
      exact h
    · have h := h.2 hc3
      refine r_aload_n (y := m12_matchData) dX12_matchData_184 rfl rfl ?_
      refine r_iconst (y := m12_matchData) (v := 4) dX12_matchData_185 (by decide) ?_
      refine r_aload_n (y := m12_matchData) dX12_matchData_186 rfl rfl ?_
      refine r_iload_n (y := m12_matchData) dX12_matchData_187 rfl rfl ?_
      refine r_iconst (y := m12_matchData) (v := 1) dX12_matchData_188 (by decide) ?_
      refine r_iadd (y := m12_matchData) dX12_matchData_189 ?_
      refine r_callV (y := m12_matchData) (As := [(.int (v1 + 1))]) (b := 668) (ci := 12) dX12_matchData_190 rfl k12_endOf lm_X12_201 rfl ⟨by decide, by decide⟩ (so_668 hm) (by decide) rfl (Nat.le_of_ble_eq_true rfl) (C.mono h ?_)
      rintro _ m4 ⟨x6, rfl, hm5, h⟩
      refine ⟨_, rfl, ?_⟩
      refine r_aload_n (y := m12_matchData) dX12_matchData_193 rfl rfl ?_
      refine g_X12_44 (y := m12_matchData) rfl dX12_matchData_194 hm5 ?_
      refine r_iload (y := m12_matchData) dX12_matchData_197 rfl ?_
      obtain ⟨hb7, h⟩ := h
      refine r_iald (y := m12_matchData) (n := 6000) dX12_matchData_199 (sa_680 hm5) hb7 ?_
      refine r_iload_n (y := m12_matchData) dX12_matchData_200 rfl rfl ?_
      refine r_callV (y := m12_matchData) (As := [(.int 4), (.int x6), (.int (mI m4 680 (Int32.toNatClampNeg v4))), (.int v3)]) (b := 668) (ci := 12) dX12_matchData_201 rfl k12_task lm_X12_260 rfl ⟨by decide, by decide⟩ (so_668 hm5) (by decide) rfl (Nat.le_of_ble_eq_true rfl) (C.mono h ?_)
      rintro _ m8 ⟨rfl, hm9, h⟩
      refine ⟨none, rfl, ?_⟩
      exact h
  · have h := h.2 hc2
    refine r_aload_n (y := m12_matchData) dX12_matchData_167 rfl rfl ?_
    refine r_aload_n (y := m12_matchData) dX12_matchData_168 rfl rfl ?_
    refine g_X12_47 (y := m12_matchData) rfl dX12_matchData_169 hm ?_
    refine r_iload_n (y := m12_matchData) dX12_matchData_172 rfl rfl ?_
    obtain ⟨hb10, h⟩ := h
    refine r_iald (y := m12_matchData) (n := 6000) dX12_matchData_173 (sa_681 hm) hb10 ?_
    refine r_callV (y := m12_matchData) (As := [(.int (mI m 681 (Int32.toNatClampNeg v3)))]) (b := 668) (ci := 12) dX12_matchData_174 rfl k12_fail lm_X12_270 rfl ⟨by decide, by decide⟩ (so_668 hm) (by decide) rfl (Nat.le_of_ble_eq_true rfl) (C.mono h ?_)
    rintro _ m11 ⟨rfl, hm12, h⟩
    refine ⟨none, rfl, ?_⟩
    exact r_ret (y := m12_matchData) dX12_matchData_177 rfl h
set_option maxHeartbeats 4000000 in
set_option maxRecDepth 100000 in
theorem w12_matchData_204 {m : Mm} {K : Option Value ⊕ String → Mm → Prop} (hm : St m) {v1 : Int32} {v2 : Int32} {v3 : Int32} {v4 : Int32} {v5 : Int32} {v6 : Int32}  (h : ((v6 ≤ 0 → V m12_matchData 225 [some (.ref 668), some (.int v1), some (.int v2), some (.int v3), some (.int v4), some (.int v5), some (.int v6), none, none] [] m K) ∧ (¬ v6 ≤ 0 → vp_in v4 6000 ∧ C m12_task [(.ref 668), (.int 4), (.int (v1 + 1)), (.int (mI m 679 (Int32.toNatClampNeg v4))), (.int v3)] m (fun o m3 => o = .inl none ∧ St m3 ∧ V m12_matchData 225 [some (.ref 668), some (.int v1), some (.int v2), some (.int v3), some (.int v4), some (.int v5), some (.int v6), none, none] [] m3 K)))) : V m12_matchData 204 [some (.ref 668), some (.int v1), some (.int v2), some (.int v3), some (.int v4), some (.int v5), some (.int v6), none, none] [] m K := by
  refine r_iload (y := m12_matchData) dX12_matchData_204 rfl ?_
  refine r_if_le (y := m12_matchData) (tgt := 225) dX12_matchData_206 (by decide) (fun hc1 => ?_) (fun hc1 => ?_)
  · have h := h.1 hc1
    exact h
  · have h := h.2 hc1
    refine r_aload_n (y := m12_matchData) dX12_matchData_209 rfl rfl ?_
    refine r_iconst (y := m12_matchData) (v := 4) dX12_matchData_210 (by decide) ?_
    refine r_iload_n (y := m12_matchData) dX12_matchData_211 rfl rfl ?_
    refine r_iconst (y := m12_matchData) (v := 1) dX12_matchData_212 (by decide) ?_
    refine r_iadd (y := m12_matchData) dX12_matchData_213 ?_
    refine r_aload_n (y := m12_matchData) dX12_matchData_214 rfl rfl ?_
    refine g_X12_41 (y := m12_matchData) rfl dX12_matchData_215 hm ?_
    refine r_iload (y := m12_matchData) dX12_matchData_218 rfl ?_
    obtain ⟨hb2, h⟩ := h
    refine r_iald (y := m12_matchData) (n := 6000) dX12_matchData_220 (sa_679 hm) hb2 ?_
    refine r_iload_n (y := m12_matchData) dX12_matchData_221 rfl rfl ?_
    refine r_callV (y := m12_matchData) (As := [(.int 4), (.int (v1 + 1)), (.int (mI m 679 (Int32.toNatClampNeg v4))), (.int v3)]) (b := 668) (ci := 12) dX12_matchData_222 rfl k12_task lm_X12_260 rfl ⟨by decide, by decide⟩ (so_668 hm) (by decide) rfl (Nat.le_of_ble_eq_true rfl) (C.mono h ?_)
    rintro _ m3 ⟨rfl, hm4, h⟩
    refine ⟨none, rfl, ?_⟩
    exact h
set_option maxHeartbeats 4000000 in
set_option maxRecDepth 100000 in
theorem w12_matchData_225 {m : Mm} {K : Option Value ⊕ String → Mm → Prop} (hm : St m) {v1 : Int32} {v2 : Int32} {v3 : Int32} {v4 : Int32} {v5 : Int32} {v6 : Int32}  (h : K (.inl none) m) : V m12_matchData 225 [some (.ref 668), some (.int v1), some (.int v2), some (.int v3), some (.int v4), some (.int v5), some (.int v6), none, none] [] m K := by
  exact r_ret (y := m12_matchData) dX12_matchData_225 rfl h
set_option maxHeartbeats 4000000 in
set_option maxRecDepth 100000 in
theorem w12_endCall {m : Mm} {K : Option Value ⊕ String → Mm → Prop} (hm : St m) {a0 : Int32}  (h : vp_in a0 6000 ∧ C m12_patternAt [(.int (mI m 683 (Int32.toNatClampNeg a0))), (.int 2)] m (fun o m2 => ∃ x4 : Int32, o = .inl (some (.int x4)) ∧ St m2 ∧ vp_in a0 6000 ∧ vp_in a0 6000 ∧ C m12_opens [(.ref 668), (.int x4), (.int (mI m2 682 (Int32.toNatClampNeg a0))), (.int (mI m2 681 (Int32.toNatClampNeg a0)))] m2 (fun o m7 => o = .inl none ∧ St m7 ∧ vp_in a0 6000 ∧ vp_in a0 6000 ∧ C m12_make [(.ref 668), (.int x4), (.int (mI m7 682 (Int32.toNatClampNeg a0))), (.int (mI m7 681 (Int32.toNatClampNeg a0)))] m7 (fun o m11 => ∃ x13 : Int32, o = .inl (some (.int x13)) ∧ St m11 ∧ C m12_become [(.ref 668), (.int a0), (.int x13)] m11 (fun o m14 => o = .inl none ∧ St m14 ∧ C m12_task [(.ref 668), (.int 0), (.int x13), (.int 0), (.int 0)] m14 (fun o m16 => o = .inl none ∧ St m16 ∧ K (.inl none) m16)))))) : V m12_endCall 0 [some (.ref 668), some (.int a0), none, none] [] m K := by
  refine r_aload_n (y := m12_endCall) dX12_endCall_0 rfl rfl ?_
  refine g_X12_53 (y := m12_endCall) rfl dX12_endCall_1 hm ?_
  refine r_iload_n (y := m12_endCall) dX12_endCall_4 rfl rfl ?_
  obtain ⟨hb1, h⟩ := h
  refine r_iald (y := m12_endCall) (n := 6000) dX12_endCall_5 (sa_683 hm) hb1 ?_
  refine r_iconst (y := m12_endCall) (v := 2) dX12_endCall_6 (by decide) ?_
  refine r_callS (y := m12_endCall) (As := [(.int (mI m 683 (Int32.toNatClampNeg a0))), (.int 2)]) dX12_endCall_7 rfl k12_patternAt lm_X12_194 rfl ⟨by decide, by decide⟩ (Nat.le_of_ble_eq_true rfl) (C.mono h ?_)
  rintro _ m2 ⟨x4, rfl, hm3, h⟩
  refine ⟨_, rfl, ?_⟩
  refine r_istore_n (y := m12_endCall) (L' := [some (.ref 668), some (.int a0), some (.int x4), none]) dX12_endCall_10 rfl (Nat.le_of_ble_eq_true rfl) rfl ?_
  refine r_aload_n (y := m12_endCall) dX12_endCall_11 rfl rfl ?_
  refine r_iload_n (y := m12_endCall) dX12_endCall_12 rfl rfl ?_
  refine r_aload_n (y := m12_endCall) dX12_endCall_13 rfl rfl ?_
  refine g_X12_50 (y := m12_endCall) rfl dX12_endCall_14 hm3 ?_
  refine r_iload_n (y := m12_endCall) dX12_endCall_17 rfl rfl ?_
  obtain ⟨hb5, h⟩ := h
  refine r_iald (y := m12_endCall) (n := 6000) dX12_endCall_18 (sa_682 hm3) hb5 ?_
  refine r_aload_n (y := m12_endCall) dX12_endCall_19 rfl rfl ?_
  refine g_X12_47 (y := m12_endCall) rfl dX12_endCall_20 hm3 ?_
  refine r_iload_n (y := m12_endCall) dX12_endCall_23 rfl rfl ?_
  obtain ⟨hb6, h⟩ := h
  refine r_iald (y := m12_endCall) (n := 6000) dX12_endCall_24 (sa_681 hm3) hb6 ?_
  refine r_callV (y := m12_endCall) (As := [(.int x4), (.int (mI m2 682 (Int32.toNatClampNeg a0))), (.int (mI m2 681 (Int32.toNatClampNeg a0)))]) (b := 668) (ci := 12) dX12_endCall_25 rfl k12_opens lm_X12_292 rfl ⟨by decide, by decide⟩ (so_668 hm3) (by decide) rfl (Nat.le_of_ble_eq_true rfl) (C.mono h ?_)
  rintro _ m7 ⟨rfl, hm8, h⟩
  refine ⟨none, rfl, ?_⟩
  refine r_aload_n (y := m12_endCall) dX12_endCall_28 rfl rfl ?_
  refine r_iload_n (y := m12_endCall) dX12_endCall_29 rfl rfl ?_
  refine r_aload_n (y := m12_endCall) dX12_endCall_30 rfl rfl ?_
  refine g_X12_50 (y := m12_endCall) rfl dX12_endCall_31 hm8 ?_
  refine r_iload_n (y := m12_endCall) dX12_endCall_34 rfl rfl ?_
  obtain ⟨hb9, h⟩ := h
  refine r_iald (y := m12_endCall) (n := 6000) dX12_endCall_35 (sa_682 hm8) hb9 ?_
  refine r_aload_n (y := m12_endCall) dX12_endCall_36 rfl rfl ?_
  refine g_X12_47 (y := m12_endCall) rfl dX12_endCall_37 hm8 ?_
  refine r_iload_n (y := m12_endCall) dX12_endCall_40 rfl rfl ?_
  obtain ⟨hb10, h⟩ := h
  refine r_iald (y := m12_endCall) (n := 6000) dX12_endCall_41 (sa_681 hm8) hb10 ?_
  refine r_callV (y := m12_endCall) (As := [(.int x4), (.int (mI m7 682 (Int32.toNatClampNeg a0))), (.int (mI m7 681 (Int32.toNatClampNeg a0)))]) (b := 668) (ci := 12) dX12_endCall_42 rfl k12_make lm_X12_257 rfl ⟨by decide, by decide⟩ (so_668 hm8) (by decide) rfl (Nat.le_of_ble_eq_true rfl) (C.mono h ?_)
  rintro _ m11 ⟨x13, rfl, hm12, h⟩
  refine ⟨_, rfl, ?_⟩
  refine r_istore_n (y := m12_endCall) (L' := [some (.ref 668), some (.int a0), some (.int x4), some (.int x13)]) dX12_endCall_45 rfl (Nat.le_of_ble_eq_true rfl) rfl ?_
  refine r_aload_n (y := m12_endCall) dX12_endCall_46 rfl rfl ?_
  refine r_iload_n (y := m12_endCall) dX12_endCall_47 rfl rfl ?_
  refine r_iload_n (y := m12_endCall) dX12_endCall_48 rfl rfl ?_
  refine r_callV (y := m12_endCall) (As := [(.int a0), (.int x13)]) (b := 668) (ci := 12) dX12_endCall_49 rfl k12_become lm_X12_286 rfl ⟨by decide, by decide⟩ (so_668 hm12) (by decide) rfl (Nat.le_of_ble_eq_true rfl) (C.mono h ?_)
  rintro _ m14 ⟨rfl, hm15, h⟩
  refine ⟨none, rfl, ?_⟩
  refine r_aload_n (y := m12_endCall) dX12_endCall_52 rfl rfl ?_
  refine r_iconst (y := m12_endCall) (v := 0) dX12_endCall_53 (by decide) ?_
  refine r_iload_n (y := m12_endCall) dX12_endCall_54 rfl rfl ?_
  refine r_iconst (y := m12_endCall) (v := 0) dX12_endCall_55 (by decide) ?_
  refine r_iconst (y := m12_endCall) (v := 0) dX12_endCall_56 (by decide) ?_
  refine r_callV (y := m12_endCall) (As := [(.int 0), (.int x13), (.int 0), (.int 0)]) (b := 668) (ci := 12) dX12_endCall_57 rfl k12_task lm_X12_260 rfl ⟨by decide, by decide⟩ (so_668 hm15) (by decide) rfl (Nat.le_of_ble_eq_true rfl) (C.mono h ?_)
  rintro _ m16 ⟨rfl, hm17, h⟩
  refine ⟨none, rfl, ?_⟩
  exact r_ret (y := m12_endCall) dX12_endCall_60 rfl h
set_option maxHeartbeats 4000000 in
set_option maxRecDepth 100000 in
theorem w12_parts {m : Mm} {K : Option Value ⊕ String → Mm → Prop} (hm : St m) {a0 : Int32}  (h : C m12_root [(.ref 668), (.int a0)] m (fun o m1 => ∃ x3 : Int32, o = .inl (some (.int x3)) ∧ St m1 ∧ vp_in x3 6000 ∧ ((¬ (mI m1 677 (Int32.toNatClampNeg x3)) = 1 → K (.inl none) m1) ∧ ((mI m1 677 (Int32.toNatClampNeg x3)) = 1 → vp_in x3 6000 ∧ ((¬ (mI m1 684 (Int32.toNatClampNeg x3)) = 0 → K (.inl none) m1) ∧ ((mI m1 684 (Int32.toNatClampNeg x3)) = 0 → C m12_task [(.ref 668), (.int 3), (.int x3), (.int 0), (.int 0)] m1 (fun o m8 => o = .inl none ∧ St m8 ∧ vp_in x3 6000 ∧ (((mI m8 680 (Int32.toNatClampNeg x3)) = (-1) → vp_in x3 6000 ∧ (((mI m8 679 (Int32.toNatClampNeg x3)) = (-1) → K (.inl none) m8) ∧ (¬ (mI m8 679 (Int32.toNatClampNeg x3)) = (-1) → vp_in x3 6000 ∧ C m12_task [(.ref 668), (.int 1), (.int (mI m8 679 (Int32.toNatClampNeg x3))), (.int 0), (.int 0)] m8 (fun o m15 => o = .inl none ∧ St m15 ∧ K (.inl none) m15)))) ∧ (¬ (mI m8 680 (Int32.toNatClampNeg x3)) = (-1) → vp_in x3 6000 ∧ C m12_task [(.ref 668), (.int 1), (.int (mI m8 680 (Int32.toNatClampNeg x3))), (.int 0), (.int 0)] m8 (fun o m18 => o = .inl none ∧ St m18 ∧ vp_in x3 6000 ∧ (((mI m18 679 (Int32.toNatClampNeg x3)) = (-1) → K (.inl none) m18) ∧ (¬ (mI m18 679 (Int32.toNatClampNeg x3)) = (-1) → vp_in x3 6000 ∧ C m12_task [(.ref 668), (.int 1), (.int (mI m18 679 (Int32.toNatClampNeg x3))), (.int 0), (.int 0)] m18 (fun o m23 => o = .inl none ∧ St m23 ∧ K (.inl none) m23))))))))))))) : V m12_parts 0 [some (.ref 668), some (.int a0), none] [] m K := by
  refine r_aload_n (y := m12_parts) dX12_parts_0 rfl rfl ?_
  refine r_iload_n (y := m12_parts) dX12_parts_1 rfl rfl ?_
  refine r_callV (y := m12_parts) (As := [(.int a0)]) (b := 668) (ci := 12) dX12_parts_2 rfl k12_root lm_X12_280 rfl ⟨by decide, by decide⟩ (so_668 hm) (by decide) rfl (Nat.le_of_ble_eq_true rfl) (C.mono h ?_)
  rintro _ m1 ⟨x3, rfl, hm2, h⟩
  refine ⟨_, rfl, ?_⟩
  refine r_istore_n (y := m12_parts) (L' := [some (.ref 668), some (.int a0), some (.int x3)]) dX12_parts_5 rfl (Nat.le_of_ble_eq_true rfl) rfl ?_
  refine r_aload_n (y := m12_parts) dX12_parts_6 rfl rfl ?_
  refine g_X12_35 (y := m12_parts) rfl dX12_parts_7 hm2 ?_
  refine r_iload_n (y := m12_parts) dX12_parts_10 rfl rfl ?_
  obtain ⟨hb4, h⟩ := h
  refine r_iald (y := m12_parts) (n := 6000) dX12_parts_11 (sa_677 hm2) hb4 ?_
  refine r_iconst (y := m12_parts) (v := 1) dX12_parts_12 (by decide) ?_
  refine r_icmp_ne (y := m12_parts) (tgt := 79) dX12_parts_13 (by decide) (fun hc5 => ?_) (fun hc5 => ?_)
  · have h := h.1 hc5
    exact r_ret (y := m12_parts) dX12_parts_79 rfl h
  · have h := h.2 hc5
    refine r_aload_n (y := m12_parts) dX12_parts_16 rfl rfl ?_
    refine g_X12_56 (y := m12_parts) rfl dX12_parts_17 hm2 ?_
    refine r_iload_n (y := m12_parts) dX12_parts_20 rfl rfl ?_
    obtain ⟨hb6, h⟩ := h
    refine r_zald (y := m12_parts) (n := 6000) dX12_parts_21 (sa_684 hm2) hb6 ?_
    refine r_if_ne (y := m12_parts) (tgt := 79) dX12_parts_22 (by decide) (fun hc7 => ?_) (fun hc7 => ?_)
    · have h := h.1 hc7
      exact r_ret (y := m12_parts) dX12_parts_79 rfl h
    · have h := h.2 hc7
      refine r_aload_n (y := m12_parts) dX12_parts_25 rfl rfl ?_
      refine r_iconst (y := m12_parts) (v := 3) dX12_parts_26 (by decide) ?_
      refine r_iload_n (y := m12_parts) dX12_parts_27 rfl rfl ?_
      refine r_iconst (y := m12_parts) (v := 0) dX12_parts_28 (by decide) ?_
      refine r_iconst (y := m12_parts) (v := 0) dX12_parts_29 (by decide) ?_
      refine r_callV (y := m12_parts) (As := [(.int 3), (.int x3), (.int 0), (.int 0)]) (b := 668) (ci := 12) dX12_parts_30 rfl k12_task lm_X12_260 rfl ⟨by decide, by decide⟩ (so_668 hm2) (by decide) rfl (Nat.le_of_ble_eq_true rfl) (C.mono h ?_)
      rintro _ m8 ⟨rfl, hm9, h⟩
      refine ⟨none, rfl, ?_⟩
      refine r_aload_n (y := m12_parts) dX12_parts_33 rfl rfl ?_
      refine g_X12_44 (y := m12_parts) rfl dX12_parts_34 hm9 ?_
      refine r_iload_n (y := m12_parts) dX12_parts_37 rfl rfl ?_
      obtain ⟨hb10, h⟩ := h
      refine r_iald (y := m12_parts) (n := 6000) dX12_parts_38 (sa_680 hm9) hb10 ?_
      refine r_iconst (y := m12_parts) (v := (-1)) dX12_parts_39 (by decide) ?_
      refine r_icmp_eq (y := m12_parts) (tgt := 56) dX12_parts_40 (by decide) (fun hc11 => ?_) (fun hc11 => ?_)
      · have h := h.1 hc11
        refine r_aload_n (y := m12_parts) dX12_parts_56 rfl rfl ?_
        refine g_X12_41 (y := m12_parts) rfl dX12_parts_57 hm9 ?_
        refine r_iload_n (y := m12_parts) dX12_parts_60 rfl rfl ?_
        obtain ⟨hb12, h⟩ := h
        refine r_iald (y := m12_parts) (n := 6000) dX12_parts_61 (sa_679 hm9) hb12 ?_
        refine r_iconst (y := m12_parts) (v := (-1)) dX12_parts_62 (by decide) ?_
        refine r_icmp_eq (y := m12_parts) (tgt := 79) dX12_parts_63 (by decide) (fun hc13 => ?_) (fun hc13 => ?_)
        · have h := h.1 hc13
          exact r_ret (y := m12_parts) dX12_parts_79 rfl h
        · have h := h.2 hc13
          refine r_aload_n (y := m12_parts) dX12_parts_66 rfl rfl ?_
          refine r_iconst (y := m12_parts) (v := 1) dX12_parts_67 (by decide) ?_
          refine r_aload_n (y := m12_parts) dX12_parts_68 rfl rfl ?_
          refine g_X12_41 (y := m12_parts) rfl dX12_parts_69 hm9 ?_
          refine r_iload_n (y := m12_parts) dX12_parts_72 rfl rfl ?_
          obtain ⟨hb14, h⟩ := h
          refine r_iald (y := m12_parts) (n := 6000) dX12_parts_73 (sa_679 hm9) hb14 ?_
          refine r_iconst (y := m12_parts) (v := 0) dX12_parts_74 (by decide) ?_
          refine r_iconst (y := m12_parts) (v := 0) dX12_parts_75 (by decide) ?_
          refine r_callV (y := m12_parts) (As := [(.int 1), (.int (mI m8 679 (Int32.toNatClampNeg x3))), (.int 0), (.int 0)]) (b := 668) (ci := 12) dX12_parts_76 rfl k12_task lm_X12_260 rfl ⟨by decide, by decide⟩ (so_668 hm9) (by decide) rfl (Nat.le_of_ble_eq_true rfl) (C.mono h ?_)
          rintro _ m15 ⟨rfl, hm16, h⟩
          refine ⟨none, rfl, ?_⟩
          exact r_ret (y := m12_parts) dX12_parts_79 rfl h
      · have h := h.2 hc11
        refine r_aload_n (y := m12_parts) dX12_parts_43 rfl rfl ?_
        refine r_iconst (y := m12_parts) (v := 1) dX12_parts_44 (by decide) ?_
        refine r_aload_n (y := m12_parts) dX12_parts_45 rfl rfl ?_
        refine g_X12_44 (y := m12_parts) rfl dX12_parts_46 hm9 ?_
        refine r_iload_n (y := m12_parts) dX12_parts_49 rfl rfl ?_
        obtain ⟨hb17, h⟩ := h
        refine r_iald (y := m12_parts) (n := 6000) dX12_parts_50 (sa_680 hm9) hb17 ?_
        refine r_iconst (y := m12_parts) (v := 0) dX12_parts_51 (by decide) ?_
        refine r_iconst (y := m12_parts) (v := 0) dX12_parts_52 (by decide) ?_
        refine r_callV (y := m12_parts) (As := [(.int 1), (.int (mI m8 680 (Int32.toNatClampNeg x3))), (.int 0), (.int 0)]) (b := 668) (ci := 12) dX12_parts_53 rfl k12_task lm_X12_260 rfl ⟨by decide, by decide⟩ (so_668 hm9) (by decide) rfl (Nat.le_of_ble_eq_true rfl) (C.mono h ?_)
        rintro _ m18 ⟨rfl, hm19, h⟩
        refine ⟨none, rfl, ?_⟩
        refine r_aload_n (y := m12_parts) dX12_parts_56 rfl rfl ?_
        refine g_X12_41 (y := m12_parts) rfl dX12_parts_57 hm19 ?_
        refine r_iload_n (y := m12_parts) dX12_parts_60 rfl rfl ?_
        obtain ⟨hb20, h⟩ := h
        refine r_iald (y := m12_parts) (n := 6000) dX12_parts_61 (sa_679 hm19) hb20 ?_
        refine r_iconst (y := m12_parts) (v := (-1)) dX12_parts_62 (by decide) ?_
        refine r_icmp_eq (y := m12_parts) (tgt := 79) dX12_parts_63 (by decide) (fun hc21 => ?_) (fun hc21 => ?_)
        · have h := h.1 hc21
          exact r_ret (y := m12_parts) dX12_parts_79 rfl h
        · have h := h.2 hc21
          refine r_aload_n (y := m12_parts) dX12_parts_66 rfl rfl ?_
          refine r_iconst (y := m12_parts) (v := 1) dX12_parts_67 (by decide) ?_
          refine r_aload_n (y := m12_parts) dX12_parts_68 rfl rfl ?_
          refine g_X12_41 (y := m12_parts) rfl dX12_parts_69 hm19 ?_
          refine r_iload_n (y := m12_parts) dX12_parts_72 rfl rfl ?_
          obtain ⟨hb22, h⟩ := h
          refine r_iald (y := m12_parts) (n := 6000) dX12_parts_73 (sa_679 hm19) hb22 ?_
          refine r_iconst (y := m12_parts) (v := 0) dX12_parts_74 (by decide) ?_
          refine r_iconst (y := m12_parts) (v := 0) dX12_parts_75 (by decide) ?_
          refine r_callV (y := m12_parts) (As := [(.int 1), (.int (mI m18 679 (Int32.toNatClampNeg x3))), (.int 0), (.int 0)]) (b := 668) (ci := 12) dX12_parts_76 rfl k12_task lm_X12_260 rfl ⟨by decide, by decide⟩ (so_668 hm19) (by decide) rfl (Nat.le_of_ble_eq_true rfl) (C.mono h ?_)
          rintro _ m23 ⟨rfl, hm24, h⟩
          refine ⟨none, rfl, ?_⟩
          exact r_ret (y := m12_parts) dX12_parts_79 rfl h
set_option maxHeartbeats 4000000 in
set_option maxRecDepth 100000 in
theorem w12_pair {m : Mm} {K : Option Value ⊕ String → Mm → Prop} (hm : St m) {a0 : Int32} {a1 : Int32}  (h : ((a0 = (-1) → K (.inl none) m) ∧ (¬ a0 = (-1) → vp_in (mI m 668 42) 6000 ∧ vp_in (mI m 668 42) 6000 ∧ K (.inl none) (mSetI (mSetI (mSetI m 699 (Int32.toNatClampNeg (mI m 668 42)) a0) 700 (Int32.toNatClampNeg (mI m 668 42)) a1) 668 42 ((mI m 668 42) + 1))))) : V m12_pair 0 [some (.ref 668), some (.int a0), some (.int a1)] [] m K := by
  refine r_iload_n (y := m12_pair) dX12_pair_0 rfl rfl ?_
  refine r_iconst (y := m12_pair) (v := (-1)) dX12_pair_1 (by decide) ?_
  refine r_icmp_eq (y := m12_pair) (tgt := 35) dX12_pair_2 (by decide) (fun hc1 => ?_) (fun hc1 => ?_)
  · have h := h.1 hc1
    exact r_ret (y := m12_pair) dX12_pair_35 rfl h
  · have h := h.2 hc1
    refine r_aload_n (y := m12_pair) dX12_pair_5 rfl rfl ?_
    refine g_X12_101 (y := m12_pair) rfl dX12_pair_6 hm ?_
    refine r_aload_n (y := m12_pair) dX12_pair_9 rfl rfl ?_
    refine g_X12_296 (y := m12_pair) rfl dX12_pair_10 hm ?_
    refine r_iload_n (y := m12_pair) dX12_pair_13 rfl rfl ?_
    obtain ⟨hb2, h⟩ := h
    refine r_iast (y := m12_pair) (n := 6000) dX12_pair_14 (sa_699 hm) hb2 ?_
    refine r_aload_n (y := m12_pair) dX12_pair_15 rfl rfl ?_
    refine g_X12_104 (y := m12_pair) rfl dX12_pair_16 (St.i hm) ?_
    refine r_aload_n (y := m12_pair) dX12_pair_19 rfl rfl ?_
    refine g_X12_296 (y := m12_pair) rfl dX12_pair_20 (St.i hm) ?_
    refine V.top (b := (mI m 668 42)) (by first | rfl | simp [mI_set, mI_setR]) ?_
    refine r_iload_n (y := m12_pair) dX12_pair_23 rfl rfl ?_
    obtain ⟨hb3, h⟩ := h
    refine r_iast (y := m12_pair) (n := 6000) dX12_pair_24 (sa_700 (St.i hm)) hb3 ?_
    refine r_aload_n (y := m12_pair) dX12_pair_25 rfl rfl ?_
    refine r_dup_r (y := m12_pair) dX12_pair_26 ?_
    refine g_X12_296 (y := m12_pair) rfl dX12_pair_27 (St.i (St.i hm)) ?_
    refine V.top (b := (mI m 668 42)) (by first | rfl | simp [mI_set, mI_setR]) ?_
    refine r_iconst (y := m12_pair) (v := 1) dX12_pair_30 (by decide) ?_
    refine r_iadd (y := m12_pair) dX12_pair_31 ?_
    refine p_X12_296 (y := m12_pair) rfl dX12_pair_32 (St.i (St.i hm)) ?_
    exact r_ret (y := m12_pair) dX12_pair_35 rfl h
set_option maxHeartbeats 4000000 in
set_option maxRecDepth 100000 in
theorem w12_isIn {m : Mm} {K : Option Value ⊕ String → Mm → Prop} (hm : St m) {a0 : Int32} {a1 : Int32}  (h : C m12_root [(.ref 668), (.int a1)] (mSetI m 668 46 ((mI m 668 46) + 1)) (fun o m1 => ∃ x3 : Int32, o = .inl (some (.int x3)) ∧ St m1 ∧ vp_in 0 6000 ∧ vp_in 0 6000 ∧ vp_in x3 6000 ∧ V m12_isIn 38 [some (.ref 668), some (.int a0), some (.int a1), some (.int 1), none, none, none] [] (mSetI (mSetI m1 702 0 x3) 701 (Int32.toNatClampNeg x3) (mI m1 668 46)) K)) : V m12_isIn 0 [some (.ref 668), some (.int a0), some (.int a1), none, none, none, none] [] m K := by
  refine r_aload_n (y := m12_isIn) dX12_isIn_0 rfl rfl ?_
  refine r_dup_r (y := m12_isIn) dX12_isIn_1 ?_
  refine g_X12_299 (y := m12_isIn) rfl dX12_isIn_2 hm ?_
  refine r_iconst (y := m12_isIn) (v := 1) dX12_isIn_5 (by decide) ?_
  refine r_iadd (y := m12_isIn) dX12_isIn_6 ?_
  refine p_X12_299 (y := m12_isIn) rfl dX12_isIn_7 hm ?_
  refine r_iconst (y := m12_isIn) (v := 1) dX12_isIn_10 (by decide) ?_
  refine r_istore_n (y := m12_isIn) (L' := [some (.ref 668), some (.int a0), some (.int a1), some (.int 1), none, none, none]) dX12_isIn_11 rfl (Nat.le_of_ble_eq_true rfl) rfl ?_
  refine r_aload_n (y := m12_isIn) dX12_isIn_12 rfl rfl ?_
  refine g_X12_110 (y := m12_isIn) rfl dX12_isIn_13 (St.i hm) ?_
  refine r_iconst (y := m12_isIn) (v := 0) dX12_isIn_16 (by decide) ?_
  refine r_aload_n (y := m12_isIn) dX12_isIn_17 rfl rfl ?_
  refine r_iload_n (y := m12_isIn) dX12_isIn_18 rfl rfl ?_
  refine r_callV (y := m12_isIn) (As := [(.int a1)]) (b := 668) (ci := 12) dX12_isIn_19 rfl k12_root lm_X12_280 rfl ⟨by decide, by decide⟩ (so_668 (St.i hm)) (by decide) rfl (Nat.le_of_ble_eq_true rfl) (C.mono h ?_)
  rintro _ m1 ⟨x3, rfl, hm2, h⟩
  refine ⟨_, rfl, ?_⟩
  obtain ⟨hb4, h⟩ := h
  refine r_iast (y := m12_isIn) (n := 6000) dX12_isIn_22 (sa_702 hm2) hb4 ?_
  refine r_aload_n (y := m12_isIn) dX12_isIn_23 rfl rfl ?_
  refine g_X12_107 (y := m12_isIn) rfl dX12_isIn_24 (St.i hm2) ?_
  refine r_aload_n (y := m12_isIn) dX12_isIn_27 rfl rfl ?_
  refine g_X12_110 (y := m12_isIn) rfl dX12_isIn_28 (St.i hm2) ?_
  refine r_iconst (y := m12_isIn) (v := 0) dX12_isIn_31 (by decide) ?_
  obtain ⟨hb5, h⟩ := h
  refine r_iald (y := m12_isIn) (n := 6000) dX12_isIn_32 (sa_702 (St.i hm2)) hb5 ?_
  refine V.top (b := x3) (by first | rfl | simp [mI_set, mI_setR]) ?_
  refine r_aload_n (y := m12_isIn) dX12_isIn_33 rfl rfl ?_
  refine g_X12_299 (y := m12_isIn) rfl dX12_isIn_34 (St.i hm2) ?_
  refine V.top (b := (mI m1 668 46)) (by first | rfl | simp [mI_set, mI_setR]) ?_
  obtain ⟨hb6, h⟩ := h
  refine r_iast (y := m12_isIn) (n := 6000) dX12_isIn_37 (sa_701 (St.i hm2)) hb6 ?_
  exact h
set_option maxHeartbeats 4000000 in
set_option maxRecDepth 100000 in
theorem w12_isIn_38 {m : Mm} {K : Option Value ⊕ String → Mm → Prop} (hm : St m) {v1 : Int32} {v2 : Int32} {v3 : Int32}  (h : ((v3 ≤ 0 → K (.inl (some (.int 0))) m) ∧ (¬ v3 ≤ 0 → vp_in (v3 + (-1)) 6000 ∧ ((¬ (mI m 702 (Int32.toNatClampNeg (v3 + (-1)))) = v1 → V m12_isIn 64 [some (.ref 668), some (.int v1), some (.int v2), some (.int (v3 + (-1))), some (.int (mI m 702 (Int32.toNatClampNeg (v3 + (-1))))), some (.int 0), none] [] m K) ∧ ((mI m 702 (Int32.toNatClampNeg (v3 + (-1)))) = v1 → K (.inl (some (.int 1))) m))))) : V m12_isIn 38 [some (.ref 668), some (.int v1), some (.int v2), some (.int v3), none, none, none] [] m K := by
  refine r_iload_n (y := m12_isIn) dX12_isIn_38 rfl rfl ?_
  refine r_if_le (y := m12_isIn) (tgt := 174) dX12_isIn_39 (by decide) (fun hc1 => ?_) (fun hc1 => ?_)
  · have h := h.1 hc1
    refine r_iconst (y := m12_isIn) (v := 0) dX12_isIn_174 (by decide) ?_
    exact r_iret (y := m12_isIn) (ty := .boolean) dX12_isIn_175 rfl (by decide) h
  · have h := h.2 hc1
    refine r_iinc (y := m12_isIn) (v := (v3 + (-1))) (L' := [some (.ref 668), some (.int v1), some (.int v2), some (.int (v3 + (-1))), none, none, none]) dX12_isIn_42 rfl (by rfl) rfl ?_
    refine r_aload_n (y := m12_isIn) dX12_isIn_45 rfl rfl ?_
    refine g_X12_110 (y := m12_isIn) rfl dX12_isIn_46 hm ?_
    refine r_iload_n (y := m12_isIn) dX12_isIn_49 rfl rfl ?_
    obtain ⟨hb2, h⟩ := h
    refine r_iald (y := m12_isIn) (n := 6000) dX12_isIn_50 (sa_702 hm) hb2 ?_
    refine r_istore (y := m12_isIn) (L' := [some (.ref 668), some (.int v1), some (.int v2), some (.int (v3 + (-1))), some (.int (mI m 702 (Int32.toNatClampNeg (v3 + (-1))))), none, none]) dX12_isIn_51 (Nat.le_of_ble_eq_true rfl) rfl ?_
    refine r_iload (y := m12_isIn) dX12_isIn_53 rfl ?_
    refine r_iload_n (y := m12_isIn) dX12_isIn_55 rfl rfl ?_
    refine r_icmp_ne (y := m12_isIn) (tgt := 61) dX12_isIn_56 (by decide) (fun hc3 => ?_) (fun hc3 => ?_)
    · have h := h.1 hc3
      refine r_iconst (y := m12_isIn) (v := 0) dX12_isIn_61 (by decide) ?_
      refine r_istore (y := m12_isIn) (L' := [some (.ref 668), some (.int v1), some (.int v2), some (.int (v3 + (-1))), some (.int (mI m 702 (Int32.toNatClampNeg (v3 + (-1))))), some (.int 0), none]) dX12_isIn_62 (Nat.le_of_ble_eq_true rfl) rfl ?_
      exact h
    · have h := h.2 hc3
      refine r_iconst (y := m12_isIn) (v := 1) dX12_isIn_59 (by decide) ?_
      exact r_iret (y := m12_isIn) (ty := .boolean) dX12_isIn_60 rfl (by decide) h
set_option maxHeartbeats 4000000 in
set_option maxRecDepth 100000 in
theorem w12_isIn_64 {m : Mm} {K : Option Value ⊕ String → Mm → Prop} (hm : St m) {v1 : Int32} {v2 : Int32} {v3 : Int32} {v4 : Int32} {v5 : Int32}  (h : ((2 ≤ v5 → V m12_isIn 171 [some (.ref 668), some (.int v1), some (.int v2), some (.int v3), some (.int v4), some (.int v5), none] [] m K) ∧ (¬ 2 ≤ v5 → vp_in v4 6000 ∧ ((¬ (mI m 677 (Int32.toNatClampNeg v4)) = 1 → V m12_isIn 171 [some (.ref 668), some (.int v1), some (.int v2), some (.int v3), some (.int v4), some (.int v5), none] [] m K) ∧ ((mI m 677 (Int32.toNatClampNeg v4)) = 1 → ((¬ v5 = 0 → vp_in v4 6000 ∧ ((¬ (mI m 680 (Int32.toNatClampNeg v4)) = (-1) → C m12_root [(.ref 668), (.int (mI m 680 (Int32.toNatClampNeg v4)))] m (fun o m7 => ∃ x9 : Int32, o = .inl (some (.int x9)) ∧ St m7 ∧ ((x9 = (-1) → V m12_isIn 165 [some (.ref 668), some (.int v1), some (.int v2), some (.int v3), some (.int v4), some (.int v5), some (.int x9)] [] m7 K) ∧ (¬ x9 = (-1) → vp_in x9 6000 ∧ (((mI m7 701 (Int32.toNatClampNeg x9)) = (mI m7 668 46) → V m12_isIn 165 [some (.ref 668), some (.int v1), some (.int v2), some (.int v3), some (.int v4), some (.int v5), some (.int x9)] [] m7 K) ∧ (¬ (mI m7 701 (Int32.toNatClampNeg x9)) = (mI m7 668 46) → vp_in x9 6000 ∧ vp_in v3 6000 ∧ V m12_isIn 165 [some (.ref 668), some (.int v1), some (.int v2), some (.int (v3 + 1)), some (.int v4), some (.int v5), some (.int x9)] [] (mSetI (mSetI m7 701 (Int32.toNatClampNeg x9) (mI m7 668 46)) 702 (Int32.toNatClampNeg v3) x9) K)))))) ∧ ((mI m 680 (Int32.toNatClampNeg v4)) = (-1) → ((((-1) : Int32) = (-1) → V m12_isIn 165 [some (.ref 668), some (.int v1), some (.int v2), some (.int v3), some (.int v4), some (.int v5), some (.int (-1))] [] m K) ∧ (¬ ((-1) : Int32) = (-1) → vp_in (-1) 6000 ∧ (((mI m 701 (Int32.toNatClampNeg (-1))) = (mI m 668 46) → V m12_isIn 165 [some (.ref 668), some (.int v1), some (.int v2), some (.int v3), some (.int v4), some (.int v5), some (.int (-1))] [] m K) ∧ (¬ (mI m 701 (Int32.toNatClampNeg (-1))) = (mI m 668 46) → vp_in (-1) 6000 ∧ vp_in v3 6000 ∧ V m12_isIn 165 [some (.ref 668), some (.int v1), some (.int v2), some (.int (v3 + 1)), some (.int v4), some (.int v5), some (.int (-1))] [] (mSetI (mSetI m 701 (Int32.toNatClampNeg (-1)) (mI m 668 46)) 702 (Int32.toNatClampNeg v3) (-1)) K))))))) ∧ (v5 = 0 → vp_in v4 6000 ∧ ((¬ (mI m 679 (Int32.toNatClampNeg v4)) = (-1) → C m12_root [(.ref 668), (.int (mI m 679 (Int32.toNatClampNeg v4)))] m (fun o m22 => ∃ x24 : Int32, o = .inl (some (.int x24)) ∧ St m22 ∧ ((x24 = (-1) → V m12_isIn 165 [some (.ref 668), some (.int v1), some (.int v2), some (.int v3), some (.int v4), some (.int v5), some (.int x24)] [] m22 K) ∧ (¬ x24 = (-1) → vp_in x24 6000 ∧ (((mI m22 701 (Int32.toNatClampNeg x24)) = (mI m22 668 46) → V m12_isIn 165 [some (.ref 668), some (.int v1), some (.int v2), some (.int v3), some (.int v4), some (.int v5), some (.int x24)] [] m22 K) ∧ (¬ (mI m22 701 (Int32.toNatClampNeg x24)) = (mI m22 668 46) → vp_in x24 6000 ∧ vp_in v3 6000 ∧ V m12_isIn 165 [some (.ref 668), some (.int v1), some (.int v2), some (.int (v3 + 1)), some (.int v4), some (.int v5), some (.int x24)] [] (mSetI (mSetI m22 701 (Int32.toNatClampNeg x24) (mI m22 668 46)) 702 (Int32.toNatClampNeg v3) x24) K)))))) ∧ ((mI m 679 (Int32.toNatClampNeg v4)) = (-1) → ((((-1) : Int32) = (-1) → V m12_isIn 165 [some (.ref 668), some (.int v1), some (.int v2), some (.int v3), some (.int v4), some (.int v5), some (.int (-1))] [] m K) ∧ (¬ ((-1) : Int32) = (-1) → vp_in (-1) 6000 ∧ (((mI m 701 (Int32.toNatClampNeg (-1))) = (mI m 668 46) → V m12_isIn 165 [some (.ref 668), some (.int v1), some (.int v2), some (.int v3), some (.int v4), some (.int v5), some (.int (-1))] [] m K) ∧ (¬ (mI m 701 (Int32.toNatClampNeg (-1))) = (mI m 668 46) → vp_in (-1) 6000 ∧ vp_in v3 6000 ∧ V m12_isIn 165 [some (.ref 668), some (.int v1), some (.int v2), some (.int (v3 + 1)), some (.int v4), some (.int v5), some (.int (-1))] [] (mSetI (mSetI m 701 (Int32.toNatClampNeg (-1)) (mI m 668 46)) 702 (Int32.toNatClampNeg v3) (-1)) K))))))))))))) : V m12_isIn 64 [some (.ref 668), some (.int v1), some (.int v2), some (.int v3), some (.int v4), some (.int v5), none] [] m K := by
  refine r_iload (y := m12_isIn) dX12_isIn_64 rfl ?_
  refine r_iconst (y := m12_isIn) (v := 2) dX12_isIn_66 (by decide) ?_
  refine r_icmp_ge (y := m12_isIn) (tgt := 171) dX12_isIn_67 (by decide) (fun hc1 => ?_) (fun hc1 => ?_)
  · have h := h.1 hc1
    exact h
  · have h := h.2 hc1
    refine r_aload_n (y := m12_isIn) dX12_isIn_70 rfl rfl ?_
    refine g_X12_35 (y := m12_isIn) rfl dX12_isIn_71 hm ?_
    refine r_iload (y := m12_isIn) dX12_isIn_74 rfl ?_
    obtain ⟨hb2, h⟩ := h
    refine r_iald (y := m12_isIn) (n := 6000) dX12_isIn_76 (sa_677 hm) hb2 ?_
    refine r_iconst (y := m12_isIn) (v := 1) dX12_isIn_77 (by decide) ?_
    refine r_icmp_ne (y := m12_isIn) (tgt := 171) dX12_isIn_78 (by decide) (fun hc3 => ?_) (fun hc3 => ?_)
    · have h := h.1 hc3
      exact h
    · have h := h.2 hc3
      refine r_iload (y := m12_isIn) dX12_isIn_81 rfl ?_
      refine r_if_ne (y := m12_isIn) (tgt := 96) dX12_isIn_83 (by decide) (fun hc4 => ?_) (fun hc4 => ?_)
      · have h := h.1 hc4
        refine r_aload_n (y := m12_isIn) dX12_isIn_96 rfl rfl ?_
        refine g_X12_44 (y := m12_isIn) rfl dX12_isIn_97 hm ?_
        refine r_iload (y := m12_isIn) dX12_isIn_100 rfl ?_
        obtain ⟨hb5, h⟩ := h
        refine r_iald (y := m12_isIn) (n := 6000) dX12_isIn_102 (sa_680 hm) hb5 ?_
        refine r_istore (y := m12_isIn) (L' := [some (.ref 668), some (.int v1), some (.int v2), some (.int v3), some (.int v4), some (.int v5), some (.int (mI m 680 (Int32.toNatClampNeg v4)))]) dX12_isIn_103 (Nat.le_of_ble_eq_true rfl) rfl ?_
        refine r_iload (y := m12_isIn) dX12_isIn_105 rfl ?_
        refine r_iconst (y := m12_isIn) (v := (-1)) dX12_isIn_107 (by decide) ?_
        refine r_icmp_ne (y := m12_isIn) (tgt := 115) dX12_isIn_108 (by decide) (fun hc6 => ?_) (fun hc6 => ?_)
        · have h := h.1 hc6
          refine r_aload_n (y := m12_isIn) dX12_isIn_115 rfl rfl ?_
          refine r_iload (y := m12_isIn) dX12_isIn_116 rfl ?_
          refine r_callV (y := m12_isIn) (As := [(.int (mI m 680 (Int32.toNatClampNeg v4)))]) (b := 668) (ci := 12) dX12_isIn_118 rfl k12_root lm_X12_280 rfl ⟨by decide, by decide⟩ (so_668 hm) (by decide) rfl (Nat.le_of_ble_eq_true rfl) (C.mono h ?_)
          rintro _ m7 ⟨x9, rfl, hm8, h⟩
          refine ⟨_, rfl, ?_⟩
          refine r_istore (y := m12_isIn) (L' := [some (.ref 668), some (.int v1), some (.int v2), some (.int v3), some (.int v4), some (.int v5), some (.int x9)]) dX12_isIn_121 (Nat.le_of_ble_eq_true rfl) rfl ?_
          refine r_iload (y := m12_isIn) dX12_isIn_123 rfl ?_
          refine r_iconst (y := m12_isIn) (v := (-1)) dX12_isIn_125 (by decide) ?_
          refine r_icmp_eq (y := m12_isIn) (tgt := 165) dX12_isIn_126 (by decide) (fun hc10 => ?_) (fun hc10 => ?_)
          · have h := h.1 hc10
            exact h
          · have h := h.2 hc10
            refine r_aload_n (y := m12_isIn) dX12_isIn_129 rfl rfl ?_
            refine g_X12_107 (y := m12_isIn) rfl dX12_isIn_130 hm8 ?_
            refine r_iload (y := m12_isIn) dX12_isIn_133 rfl ?_
            obtain ⟨hb11, h⟩ := h
            refine r_iald (y := m12_isIn) (n := 6000) dX12_isIn_135 (sa_701 hm8) hb11 ?_
            refine r_aload_n (y := m12_isIn) dX12_isIn_136 rfl rfl ?_
            refine g_X12_299 (y := m12_isIn) rfl dX12_isIn_137 hm8 ?_
            refine r_icmp_eq (y := m12_isIn) (tgt := 165) dX12_isIn_140 (by decide) (fun hc12 => ?_) (fun hc12 => ?_)
            · have h := h.1 hc12
              exact h
            · have h := h.2 hc12
              refine r_aload_n (y := m12_isIn) dX12_isIn_143 rfl rfl ?_
              refine g_X12_107 (y := m12_isIn) rfl dX12_isIn_144 hm8 ?_
              refine r_iload (y := m12_isIn) dX12_isIn_147 rfl ?_
              refine r_aload_n (y := m12_isIn) dX12_isIn_149 rfl rfl ?_
              refine g_X12_299 (y := m12_isIn) rfl dX12_isIn_150 hm8 ?_
              obtain ⟨hb13, h⟩ := h
              refine r_iast (y := m12_isIn) (n := 6000) dX12_isIn_153 (sa_701 hm8) hb13 ?_
              refine r_aload_n (y := m12_isIn) dX12_isIn_154 rfl rfl ?_
              refine g_X12_110 (y := m12_isIn) rfl dX12_isIn_155 (St.i hm8) ?_
              refine r_iload_n (y := m12_isIn) dX12_isIn_158 rfl rfl ?_
              refine r_iload (y := m12_isIn) dX12_isIn_159 rfl ?_
              obtain ⟨hb14, h⟩ := h
              refine r_iast (y := m12_isIn) (n := 6000) dX12_isIn_161 (sa_702 (St.i hm8)) hb14 ?_
              refine r_iinc (y := m12_isIn) (v := (v3 + 1)) (L' := [some (.ref 668), some (.int v1), some (.int v2), some (.int (v3 + 1)), some (.int v4), some (.int v5), some (.int x9)]) dX12_isIn_162 rfl (by rfl) rfl ?_
              exact h
        · have h := h.2 hc6
          refine r_iconst (y := m12_isIn) (v := (-1)) dX12_isIn_111 (by decide) ?_
          refine r_goto (y := m12_isIn) (tgt := 121) dX12_isIn_112 (by decide) ?_
          refine r_istore (y := m12_isIn) (L' := [some (.ref 668), some (.int v1), some (.int v2), some (.int v3), some (.int v4), some (.int v5), some (.int (-1))]) dX12_isIn_121 (Nat.le_of_ble_eq_true rfl) rfl ?_
          refine r_iload (y := m12_isIn) dX12_isIn_123 rfl ?_
          refine r_iconst (y := m12_isIn) (v := (-1)) dX12_isIn_125 (by decide) ?_
          refine r_icmp_eq (y := m12_isIn) (tgt := 165) dX12_isIn_126 (by decide) (fun hc15 => ?_) (fun hc15 => ?_)
          · have h := h.1 hc15
            exact h
          · have h := h.2 hc15
            refine r_aload_n (y := m12_isIn) dX12_isIn_129 rfl rfl ?_
            refine g_X12_107 (y := m12_isIn) rfl dX12_isIn_130 hm ?_
            refine r_iload (y := m12_isIn) dX12_isIn_133 rfl ?_
            obtain ⟨hb16, h⟩ := h
            refine r_iald (y := m12_isIn) (n := 6000) dX12_isIn_135 (sa_701 hm) hb16 ?_
            refine r_aload_n (y := m12_isIn) dX12_isIn_136 rfl rfl ?_
            refine g_X12_299 (y := m12_isIn) rfl dX12_isIn_137 hm ?_
            refine r_icmp_eq (y := m12_isIn) (tgt := 165) dX12_isIn_140 (by decide) (fun hc17 => ?_) (fun hc17 => ?_)
            · have h := h.1 hc17
              exact h
            · have h := h.2 hc17
              refine r_aload_n (y := m12_isIn) dX12_isIn_143 rfl rfl ?_
              refine g_X12_107 (y := m12_isIn) rfl dX12_isIn_144 hm ?_
              refine r_iload (y := m12_isIn) dX12_isIn_147 rfl ?_
              refine r_aload_n (y := m12_isIn) dX12_isIn_149 rfl rfl ?_
              refine g_X12_299 (y := m12_isIn) rfl dX12_isIn_150 hm ?_
              obtain ⟨hb18, h⟩ := h
              refine r_iast (y := m12_isIn) (n := 6000) dX12_isIn_153 (sa_701 hm) hb18 ?_
              refine r_aload_n (y := m12_isIn) dX12_isIn_154 rfl rfl ?_
              refine g_X12_110 (y := m12_isIn) rfl dX12_isIn_155 (St.i hm) ?_
              refine r_iload_n (y := m12_isIn) dX12_isIn_158 rfl rfl ?_
              refine r_iload (y := m12_isIn) dX12_isIn_159 rfl ?_
              obtain ⟨hb19, h⟩ := h
              refine r_iast (y := m12_isIn) (n := 6000) dX12_isIn_161 (sa_702 (St.i hm)) hb19 ?_
              refine r_iinc (y := m12_isIn) (v := (v3 + 1)) (L' := [some (.ref 668), some (.int v1), some (.int v2), some (.int (v3 + 1)), some (.int v4), some (.int v5), some (.int (-1))]) dX12_isIn_162 rfl (by rfl) rfl ?_
              exact h
      · have h := h.2 hc4
        refine r_aload_n (y := m12_isIn) dX12_isIn_86 rfl rfl ?_
        refine g_X12_41 (y := m12_isIn) rfl dX12_isIn_87 hm ?_
        refine r_iload (y := m12_isIn) dX12_isIn_90 rfl ?_
        obtain ⟨hb20, h⟩ := h
        refine r_iald (y := m12_isIn) (n := 6000) dX12_isIn_92 (sa_679 hm) hb20 ?_
        refine r_goto (y := m12_isIn) (tgt := 103) dX12_isIn_93 (by decide) ?_
        refine r_istore (y := m12_isIn) (L' := [some (.ref 668), some (.int v1), some (.int v2), some (.int v3), some (.int v4), some (.int v5), some (.int (mI m 679 (Int32.toNatClampNeg v4)))]) dX12_isIn_103 (Nat.le_of_ble_eq_true rfl) rfl ?_
        refine r_iload (y := m12_isIn) dX12_isIn_105 rfl ?_
        refine r_iconst (y := m12_isIn) (v := (-1)) dX12_isIn_107 (by decide) ?_
        refine r_icmp_ne (y := m12_isIn) (tgt := 115) dX12_isIn_108 (by decide) (fun hc21 => ?_) (fun hc21 => ?_)
        · have h := h.1 hc21
          refine r_aload_n (y := m12_isIn) dX12_isIn_115 rfl rfl ?_
          refine r_iload (y := m12_isIn) dX12_isIn_116 rfl ?_
          refine r_callV (y := m12_isIn) (As := [(.int (mI m 679 (Int32.toNatClampNeg v4)))]) (b := 668) (ci := 12) dX12_isIn_118 rfl k12_root lm_X12_280 rfl ⟨by decide, by decide⟩ (so_668 hm) (by decide) rfl (Nat.le_of_ble_eq_true rfl) (C.mono h ?_)
          rintro _ m22 ⟨x24, rfl, hm23, h⟩
          refine ⟨_, rfl, ?_⟩
          refine r_istore (y := m12_isIn) (L' := [some (.ref 668), some (.int v1), some (.int v2), some (.int v3), some (.int v4), some (.int v5), some (.int x24)]) dX12_isIn_121 (Nat.le_of_ble_eq_true rfl) rfl ?_
          refine r_iload (y := m12_isIn) dX12_isIn_123 rfl ?_
          refine r_iconst (y := m12_isIn) (v := (-1)) dX12_isIn_125 (by decide) ?_
          refine r_icmp_eq (y := m12_isIn) (tgt := 165) dX12_isIn_126 (by decide) (fun hc25 => ?_) (fun hc25 => ?_)
          · have h := h.1 hc25
            exact h
          · have h := h.2 hc25
            refine r_aload_n (y := m12_isIn) dX12_isIn_129 rfl rfl ?_
            refine g_X12_107 (y := m12_isIn) rfl dX12_isIn_130 hm23 ?_
            refine r_iload (y := m12_isIn) dX12_isIn_133 rfl ?_
            obtain ⟨hb26, h⟩ := h
            refine r_iald (y := m12_isIn) (n := 6000) dX12_isIn_135 (sa_701 hm23) hb26 ?_
            refine r_aload_n (y := m12_isIn) dX12_isIn_136 rfl rfl ?_
            refine g_X12_299 (y := m12_isIn) rfl dX12_isIn_137 hm23 ?_
            refine r_icmp_eq (y := m12_isIn) (tgt := 165) dX12_isIn_140 (by decide) (fun hc27 => ?_) (fun hc27 => ?_)
            · have h := h.1 hc27
              exact h
            · have h := h.2 hc27
              refine r_aload_n (y := m12_isIn) dX12_isIn_143 rfl rfl ?_
              refine g_X12_107 (y := m12_isIn) rfl dX12_isIn_144 hm23 ?_
              refine r_iload (y := m12_isIn) dX12_isIn_147 rfl ?_
              refine r_aload_n (y := m12_isIn) dX12_isIn_149 rfl rfl ?_
              refine g_X12_299 (y := m12_isIn) rfl dX12_isIn_150 hm23 ?_
              obtain ⟨hb28, h⟩ := h
              refine r_iast (y := m12_isIn) (n := 6000) dX12_isIn_153 (sa_701 hm23) hb28 ?_
              refine r_aload_n (y := m12_isIn) dX12_isIn_154 rfl rfl ?_
              refine g_X12_110 (y := m12_isIn) rfl dX12_isIn_155 (St.i hm23) ?_
              refine r_iload_n (y := m12_isIn) dX12_isIn_158 rfl rfl ?_
              refine r_iload (y := m12_isIn) dX12_isIn_159 rfl ?_
              obtain ⟨hb29, h⟩ := h
              refine r_iast (y := m12_isIn) (n := 6000) dX12_isIn_161 (sa_702 (St.i hm23)) hb29 ?_
              refine r_iinc (y := m12_isIn) (v := (v3 + 1)) (L' := [some (.ref 668), some (.int v1), some (.int v2), some (.int (v3 + 1)), some (.int v4), some (.int v5), some (.int x24)]) dX12_isIn_162 rfl (by rfl) rfl ?_
              exact h
        · have h := h.2 hc21
          refine r_iconst (y := m12_isIn) (v := (-1)) dX12_isIn_111 (by decide) ?_
          refine r_goto (y := m12_isIn) (tgt := 121) dX12_isIn_112 (by decide) ?_
          refine r_istore (y := m12_isIn) (L' := [some (.ref 668), some (.int v1), some (.int v2), some (.int v3), some (.int v4), some (.int v5), some (.int (-1))]) dX12_isIn_121 (Nat.le_of_ble_eq_true rfl) rfl ?_
          refine r_iload (y := m12_isIn) dX12_isIn_123 rfl ?_
          refine r_iconst (y := m12_isIn) (v := (-1)) dX12_isIn_125 (by decide) ?_
          refine r_icmp_eq (y := m12_isIn) (tgt := 165) dX12_isIn_126 (by decide) (fun hc30 => ?_) (fun hc30 => ?_)
          · have h := h.1 hc30
            exact h
          · have h := h.2 hc30
            refine r_aload_n (y := m12_isIn) dX12_isIn_129 rfl rfl ?_
            refine g_X12_107 (y := m12_isIn) rfl dX12_isIn_130 hm ?_
            refine r_iload (y := m12_isIn) dX12_isIn_133 rfl ?_
            obtain ⟨hb31, h⟩ := h
            refine r_iald (y := m12_isIn) (n := 6000) dX12_isIn_135 (sa_701 hm) hb31 ?_
            refine r_aload_n (y := m12_isIn) dX12_isIn_136 rfl rfl ?_
            refine g_X12_299 (y := m12_isIn) rfl dX12_isIn_137 hm ?_
            refine r_icmp_eq (y := m12_isIn) (tgt := 165) dX12_isIn_140 (by decide) (fun hc32 => ?_) (fun hc32 => ?_)
            · have h := h.1 hc32
              exact h
            · have h := h.2 hc32
              refine r_aload_n (y := m12_isIn) dX12_isIn_143 rfl rfl ?_
              refine g_X12_107 (y := m12_isIn) rfl dX12_isIn_144 hm ?_
              refine r_iload (y := m12_isIn) dX12_isIn_147 rfl ?_
              refine r_aload_n (y := m12_isIn) dX12_isIn_149 rfl rfl ?_
              refine g_X12_299 (y := m12_isIn) rfl dX12_isIn_150 hm ?_
              obtain ⟨hb33, h⟩ := h
              refine r_iast (y := m12_isIn) (n := 6000) dX12_isIn_153 (sa_701 hm) hb33 ?_
              refine r_aload_n (y := m12_isIn) dX12_isIn_154 rfl rfl ?_
              refine g_X12_110 (y := m12_isIn) rfl dX12_isIn_155 (St.i hm) ?_
              refine r_iload_n (y := m12_isIn) dX12_isIn_158 rfl rfl ?_
              refine r_iload (y := m12_isIn) dX12_isIn_159 rfl ?_
              obtain ⟨hb34, h⟩ := h
              refine r_iast (y := m12_isIn) (n := 6000) dX12_isIn_161 (sa_702 (St.i hm)) hb34 ?_
              refine r_iinc (y := m12_isIn) (v := (v3 + 1)) (L' := [some (.ref 668), some (.int v1), some (.int v2), some (.int (v3 + 1)), some (.int v4), some (.int v5), some (.int (-1))]) dX12_isIn_162 rfl (by rfl) rfl ?_
              exact h
set_option maxHeartbeats 4000000 in
set_option maxRecDepth 100000 in
theorem w12_isIn_171 {m : Mm} {K : Option Value ⊕ String → Mm → Prop} (hm : St m) {v1 : Int32} {v2 : Int32} {v3 : Int32} {v4 : Int32} {v5 : Int32}  (h : V m12_isIn 38 [some (.ref 668), some (.int v1), some (.int v2), some (.int v3), some (.int v4), some (.int v5), none] [] m K) : V m12_isIn 171 [some (.ref 668), some (.int v1), some (.int v2), some (.int v3), some (.int v4), some (.int v5), none] [] m K := by
  refine r_goto (y := m12_isIn) (tgt := 38) dX12_isIn_171 (by decide) ?_
  exact h
set_option maxHeartbeats 4000000 in
set_option maxRecDepth 100000 in
theorem w12_isIn_165 {m : Mm} {K : Option Value ⊕ String → Mm → Prop} (hm : St m) {v1 : Int32} {v2 : Int32} {v3 : Int32} {v4 : Int32} {v5 : Int32} {v6 : Int32}  (h : V m12_isIn 64 [some (.ref 668), some (.int v1), some (.int v2), some (.int v3), some (.int v4), some (.int (v5 + 1)), some (.int v6)] [] m K) : V m12_isIn 165 [some (.ref 668), some (.int v1), some (.int v2), some (.int v3), some (.int v4), some (.int v5), some (.int v6)] [] m K := by
  refine r_iinc (y := m12_isIn) (v := (v5 + 1)) (L' := [some (.ref 668), some (.int v1), some (.int v2), some (.int v3), some (.int v4), some (.int (v5 + 1)), some (.int v6)]) dX12_isIn_165 rfl (by rfl) rfl ?_
  refine r_goto (y := m12_isIn) (tgt := 64) dX12_isIn_168 (by decide) ?_
  exact h
set_option maxHeartbeats 4000000 in
set_option maxRecDepth 100000 in
theorem w12_bind {m : Mm} {K : Option Value ⊕ String → Mm → Prop} (hm : St m) {a0 : Int32} {a1 : Int32} {a2 : Int32}  (h : C m12_isIn [(.ref 668), (.int a0), (.int a1)] m (fun o m1 => ∃ x3 : Int32, o = .inl (some (.int x3)) ∧ St m1 ∧ ((x3 = 0 → vp_in a0 6000 ∧ ((¬ (mI m1 681 (Int32.toNatClampNeg a0)) = a2 → vp_in a1 6000 ∧ ((¬ (mI m1 677 (Int32.toNatClampNeg a1)) = 0 → K (.inl none) (mSetI m1 668 29 3)) ∧ ((mI m1 677 (Int32.toNatClampNeg a1)) = 0 → vp_in a1 6000 ∧ ((¬ (mI m1 681 (Int32.toNatClampNeg a1)) = a2 → K (.inl none) (mSetI m1 668 29 3)) ∧ ((mI m1 681 (Int32.toNatClampNeg a1)) = a2 → C m12_become [(.ref 668), (.int a1), (.int a0)] m1 (fun o m11 => o = .inl none ∧ St m11 ∧ K (.inl none) m11)))))) ∧ ((mI m1 681 (Int32.toNatClampNeg a0)) = a2 → C m12_become [(.ref 668), (.int a0), (.int a1)] m1 (fun o m13 => o = .inl none ∧ St m13 ∧ K (.inl none) m13)))) ∧ (¬ x3 = 0 → C m12_fail [(.ref 668), (.int a2)] m1 (fun o m15 => o = .inl none ∧ St m15 ∧ K (.inl none) m15))))) : V m12_bind 0 [some (.ref 668), some (.int a0), some (.int a1), some (.int a2)] [] m K := by
  refine r_aload_n (y := m12_bind) dX12_bind_0 rfl rfl ?_
  refine r_iload_n (y := m12_bind) dX12_bind_1 rfl rfl ?_
  refine r_iload_n (y := m12_bind) dX12_bind_2 rfl rfl ?_
  refine r_callV (y := m12_bind) (As := [(.int a0), (.int a1)]) (b := 668) (ci := 12) dX12_bind_3 rfl k12_isIn lm_X12_302 rfl ⟨by decide, by decide⟩ (so_668 hm) (by decide) rfl (Nat.le_of_ble_eq_true rfl) (C.mono h ?_)
  rintro _ m1 ⟨x3, rfl, hm2, h⟩
  refine ⟨_, rfl, ?_⟩
  refine r_if_eq (y := m12_bind) (tgt := 17) dX12_bind_6 (by decide) (fun hc4 => ?_) (fun hc4 => ?_)
  · have h := h.1 hc4
    refine r_aload_n (y := m12_bind) dX12_bind_17 rfl rfl ?_
    refine g_X12_47 (y := m12_bind) rfl dX12_bind_18 hm2 ?_
    refine r_iload_n (y := m12_bind) dX12_bind_21 rfl rfl ?_
    obtain ⟨hb5, h⟩ := h
    refine r_iald (y := m12_bind) (n := 6000) dX12_bind_22 (sa_681 hm2) hb5 ?_
    refine r_iload_n (y := m12_bind) dX12_bind_23 rfl rfl ?_
    refine r_icmp_ne (y := m12_bind) (tgt := 36) dX12_bind_24 (by decide) (fun hc6 => ?_) (fun hc6 => ?_)
    · have h := h.1 hc6
      refine r_aload_n (y := m12_bind) dX12_bind_36 rfl rfl ?_
      refine g_X12_35 (y := m12_bind) rfl dX12_bind_37 hm2 ?_
      refine r_iload_n (y := m12_bind) dX12_bind_40 rfl rfl ?_
      obtain ⟨hb7, h⟩ := h
      refine r_iald (y := m12_bind) (n := 6000) dX12_bind_41 (sa_677 hm2) hb7 ?_
      refine r_if_ne (y := m12_bind) (tgt := 64) dX12_bind_42 (by decide) (fun hc8 => ?_) (fun hc8 => ?_)
      · have h := h.1 hc8
        refine r_aload_n (y := m12_bind) dX12_bind_64 rfl rfl ?_
        refine r_iconst (y := m12_bind) (v := 3) dX12_bind_65 (by decide) ?_
        refine p_X12_245 (y := m12_bind) rfl dX12_bind_66 hm2 ?_
        exact r_ret (y := m12_bind) dX12_bind_69 rfl h
      · have h := h.2 hc8
        refine r_aload_n (y := m12_bind) dX12_bind_45 rfl rfl ?_
        refine g_X12_47 (y := m12_bind) rfl dX12_bind_46 hm2 ?_
        refine r_iload_n (y := m12_bind) dX12_bind_49 rfl rfl ?_
        obtain ⟨hb9, h⟩ := h
        refine r_iald (y := m12_bind) (n := 6000) dX12_bind_50 (sa_681 hm2) hb9 ?_
        refine r_iload_n (y := m12_bind) dX12_bind_51 rfl rfl ?_
        refine r_icmp_ne (y := m12_bind) (tgt := 64) dX12_bind_52 (by decide) (fun hc10 => ?_) (fun hc10 => ?_)
        · have h := h.1 hc10
          refine r_aload_n (y := m12_bind) dX12_bind_64 rfl rfl ?_
          refine r_iconst (y := m12_bind) (v := 3) dX12_bind_65 (by decide) ?_
          refine p_X12_245 (y := m12_bind) rfl dX12_bind_66 hm2 ?_
          exact r_ret (y := m12_bind) dX12_bind_69 rfl h
        · have h := h.2 hc10
          refine r_aload_n (y := m12_bind) dX12_bind_55 rfl rfl ?_
          refine r_iload_n (y := m12_bind) dX12_bind_56 rfl rfl ?_
          refine r_iload_n (y := m12_bind) dX12_bind_57 rfl rfl ?_
          refine r_callV (y := m12_bind) (As := [(.int a1), (.int a0)]) (b := 668) (ci := 12) dX12_bind_58 rfl k12_become lm_X12_286 rfl ⟨by decide, by decide⟩ (so_668 hm2) (by decide) rfl (Nat.le_of_ble_eq_true rfl) (C.mono h ?_)
          rintro _ m11 ⟨rfl, hm12, h⟩
          refine ⟨none, rfl, ?_⟩
          refine r_goto (y := m12_bind) (tgt := 69) dX12_bind_61 (by decide) ?_
          exact r_ret (y := m12_bind) dX12_bind_69 rfl h
    · have h := h.2 hc6
      refine r_aload_n (y := m12_bind) dX12_bind_27 rfl rfl ?_
      refine r_iload_n (y := m12_bind) dX12_bind_28 rfl rfl ?_
      refine r_iload_n (y := m12_bind) dX12_bind_29 rfl rfl ?_
      refine r_callV (y := m12_bind) (As := [(.int a0), (.int a1)]) (b := 668) (ci := 12) dX12_bind_30 rfl k12_become lm_X12_286 rfl ⟨by decide, by decide⟩ (so_668 hm2) (by decide) rfl (Nat.le_of_ble_eq_true rfl) (C.mono h ?_)
      rintro _ m13 ⟨rfl, hm14, h⟩
      refine ⟨none, rfl, ?_⟩
      refine r_goto (y := m12_bind) (tgt := 69) dX12_bind_33 (by decide) ?_
      exact r_ret (y := m12_bind) dX12_bind_69 rfl h
  · have h := h.2 hc4
    refine r_aload_n (y := m12_bind) dX12_bind_9 rfl rfl ?_
    refine r_iload_n (y := m12_bind) dX12_bind_10 rfl rfl ?_
    refine r_callV (y := m12_bind) (As := [(.int a2)]) (b := 668) (ci := 12) dX12_bind_11 rfl k12_fail lm_X12_270 rfl ⟨by decide, by decide⟩ (so_668 hm2) (by decide) rfl (Nat.le_of_ble_eq_true rfl) (C.mono h ?_)
    rintro _ m15 ⟨rfl, hm16, h⟩
    refine ⟨none, rfl, ?_⟩
    refine r_goto (y := m12_bind) (tgt := 69) dX12_bind_14 (by decide) ?_
    exact r_ret (y := m12_bind) dX12_bind_69 rfl h
set_option maxHeartbeats 4000000 in
set_option maxRecDepth 100000 in
theorem w12_endSame {m : Mm} {K : Option Value ⊕ String → Mm → Prop} (hm : St m) {a0 : Int32}  (h : vp_in a0 6000 ∧ vp_in a0 6000 ∧ vp_in a0 6000 ∧ C m12_pair [(.ref 668), (.int (mI m 679 (Int32.toNatClampNeg a0))), (.int (mI m 680 (Int32.toNatClampNeg a0)))] (mSetI m 668 42 0) (fun o m4 => o = .inl none ∧ St m4 ∧ V m12_endSame 42 [some (.ref 668), some (.int a0), some (.int (mI m 681 (Int32.toNatClampNeg a0))), some (.int (mI m 668 31)), some (.int (mI m 668 24)), some (.int 1), none, none] [] m4 K)) : V m12_endSame 0 [some (.ref 668), some (.int a0), none, none, none, none, none, none] [] m K := by
  refine r_aload_n (y := m12_endSame) dX12_endSame_0 rfl rfl ?_
  refine g_X12_47 (y := m12_endSame) rfl dX12_endSame_1 hm ?_
  refine r_iload_n (y := m12_endSame) dX12_endSame_4 rfl rfl ?_
  obtain ⟨hb1, h⟩ := h
  refine r_iald (y := m12_endSame) (n := 6000) dX12_endSame_5 (sa_681 hm) hb1 ?_
  refine r_istore_n (y := m12_endSame) (L' := [some (.ref 668), some (.int a0), some (.int (mI m 681 (Int32.toNatClampNeg a0))), none, none, none, none, none]) dX12_endSame_6 rfl (Nat.le_of_ble_eq_true rfl) rfl ?_
  refine r_aload_n (y := m12_endSame) dX12_endSame_7 rfl rfl ?_
  refine g_X12_251 (y := m12_endSame) rfl dX12_endSame_8 hm ?_
  refine r_istore_n (y := m12_endSame) (L' := [some (.ref 668), some (.int a0), some (.int (mI m 681 (Int32.toNatClampNeg a0))), some (.int (mI m 668 31)), none, none, none, none]) dX12_endSame_11 rfl (Nat.le_of_ble_eq_true rfl) rfl ?_
  refine r_aload_n (y := m12_endSame) dX12_endSame_12 rfl rfl ?_
  refine g_X12_239 (y := m12_endSame) rfl dX12_endSame_13 hm ?_
  refine r_istore (y := m12_endSame) (L' := [some (.ref 668), some (.int a0), some (.int (mI m 681 (Int32.toNatClampNeg a0))), some (.int (mI m 668 31)), some (.int (mI m 668 24)), none, none, none]) dX12_endSame_16 (Nat.le_of_ble_eq_true rfl) rfl ?_
  refine r_iconst (y := m12_endSame) (v := 1) dX12_endSame_18 (by decide) ?_
  refine r_istore (y := m12_endSame) (L' := [some (.ref 668), some (.int a0), some (.int (mI m 681 (Int32.toNatClampNeg a0))), some (.int (mI m 668 31)), some (.int (mI m 668 24)), some (.int 1), none, none]) dX12_endSame_19 (Nat.le_of_ble_eq_true rfl) rfl ?_
  refine r_aload_n (y := m12_endSame) dX12_endSame_21 rfl rfl ?_
  refine r_iconst (y := m12_endSame) (v := 0) dX12_endSame_22 (by decide) ?_
  refine p_X12_296 (y := m12_endSame) rfl dX12_endSame_23 hm ?_
  refine r_aload_n (y := m12_endSame) dX12_endSame_26 rfl rfl ?_
  refine r_aload_n (y := m12_endSame) dX12_endSame_27 rfl rfl ?_
  refine g_X12_41 (y := m12_endSame) rfl dX12_endSame_28 (St.i hm) ?_
  refine r_iload_n (y := m12_endSame) dX12_endSame_31 rfl rfl ?_
  obtain ⟨hb2, h⟩ := h
  refine r_iald (y := m12_endSame) (n := 6000) dX12_endSame_32 (sa_679 (St.i hm)) hb2 ?_
  refine V.top (b := (mI m 679 (Int32.toNatClampNeg a0))) (by first | rfl | simp [mI_set, mI_setR]) ?_
  refine r_aload_n (y := m12_endSame) dX12_endSame_33 rfl rfl ?_
  refine g_X12_44 (y := m12_endSame) rfl dX12_endSame_34 (St.i hm) ?_
  refine r_iload_n (y := m12_endSame) dX12_endSame_37 rfl rfl ?_
  obtain ⟨hb3, h⟩ := h
  refine r_iald (y := m12_endSame) (n := 6000) dX12_endSame_38 (sa_680 (St.i hm)) hb3 ?_
  refine V.top (b := (mI m 680 (Int32.toNatClampNeg a0))) (by first | rfl | simp [mI_set, mI_setR]) ?_
  refine r_callV (y := m12_endSame) (As := [(.int (mI m 679 (Int32.toNatClampNeg a0))), (.int (mI m 680 (Int32.toNatClampNeg a0)))]) (b := 668) (ci := 12) dX12_endSame_39 rfl k12_pair lm_X12_305 rfl ⟨by decide, by decide⟩ (so_668 (St.i hm)) (by decide) rfl (Nat.le_of_ble_eq_true rfl) (C.mono h ?_)
  rintro _ m4 ⟨rfl, hm5, h⟩
  refine ⟨none, rfl, ?_⟩
  exact h
set_option maxHeartbeats 4000000 in
set_option maxRecDepth 100000 in
theorem w12_endSame_42 {m : Mm} {K : Option Value ⊕ String → Mm → Prop} (hm : St m) {v1 : Int32} {v2 : Int32} {v3 : Int32} {v4 : Int32} {v5 : Int32}  (h : ((v5 = 0 → V m12_endSame 301 [some (.ref 668), some (.int v1), some (.int v2), some (.int v3), some (.int v4), some (.int v5), none, none] [] m K) ∧ (¬ v5 = 0 → (((mI m 668 42) ≤ 0 → V m12_endSame 301 [some (.ref 668), some (.int v1), some (.int v2), some (.int v3), some (.int v4), some (.int v5), none, none] [] m K) ∧ (¬ (mI m 668 42) ≤ 0 → vp_in ((mI m 668 42) - 1) 6000 ∧ C m12_root [(.ref 668), (.int (mI m 699 (Int32.toNatClampNeg ((mI m 668 42) - 1))))] (mSetI m 668 42 ((mI m 668 42) - 1)) (fun o m4 => ∃ x6 : Int32, o = .inl (some (.int x6)) ∧ St m4 ∧ vp_in (mI m4 668 42) 6000 ∧ C m12_root [(.ref 668), (.int (mI m4 700 (Int32.toNatClampNeg (mI m4 668 42))))] m4 (fun o m8 => ∃ x10 : Int32, o = .inl (some (.int x10)) ∧ St m8 ∧ ((x6 = x10 → V m12_endSame 298 [some (.ref 668), some (.int v1), some (.int v2), some (.int v3), some (.int v4), some (.int v5), some (.int x6), some (.int x10)] [] m8 K) ∧ (¬ x6 = x10 → C m12_step [(.ref 668)] m8 (fun o m12 => o = .inl none ∧ St m12 ∧ (((mI m12 668 29) = 0 → vp_in x6 6000 ∧ ((¬ (mI m12 677 (Int32.toNatClampNeg x6)) = 0 → vp_in x10 6000 ∧ ((¬ (mI m12 677 (Int32.toNatClampNeg x10)) = 0 → vp_in x6 6000 ∧ vp_in x10 6000 ∧ (((mI m12 678 (Int32.toNatClampNeg x6)) = (mI m12 678 (Int32.toNatClampNeg x10)) → vp_in x6 6000 ∧ vp_in x10 6000 ∧ C m12_pair [(.ref 668), (.int (mI m12 680 (Int32.toNatClampNeg x6))), (.int (mI m12 680 (Int32.toNatClampNeg x10)))] m12 (fun o m24 => o = .inl none ∧ St m24 ∧ vp_in x6 6000 ∧ vp_in x10 6000 ∧ C m12_pair [(.ref 668), (.int (mI m24 679 (Int32.toNatClampNeg x6))), (.int (mI m24 679 (Int32.toNatClampNeg x10)))] m24 (fun o m28 => o = .inl none ∧ St m28 ∧ V m12_endSame 262 [some (.ref 668), some (.int v1), some (.int v2), some (.int v3), some (.int v4), some (.int v5), some (.int x6), some (.int x10)] [] m28 K))) ∧ (¬ (mI m12 678 (Int32.toNatClampNeg x6)) = (mI m12 678 (Int32.toNatClampNeg x10)) → C m12_fail [(.ref 668), (.int v2)] m12 (fun o m30 => o = .inl none ∧ St m30 ∧ V m12_endSame 262 [some (.ref 668), some (.int v1), some (.int v2), some (.int v3), some (.int v4), some (.int 0), some (.int x6), some (.int x10)] [] m30 K)))) ∧ ((mI m12 677 (Int32.toNatClampNeg x10)) = 0 → C m12_isIn [(.ref 668), (.int x10), (.int x6)] m12 (fun o m32 => ∃ x34 : Int32, o = .inl (some (.int x34)) ∧ St m32 ∧ ((¬ x34 = 0 → C m12_bind [(.ref 668), (.int x10), (.int x6), (.int v2)] m32 (fun o m36 => o = .inl none ∧ St m36 ∧ V m12_endSame 262 [some (.ref 668), some (.int v1), some (.int v2), some (.int v3), some (.int v4), some (.int 0), some (.int x6), some (.int x10)] [] m36 K)) ∧ (x34 = 0 → C m12_bind [(.ref 668), (.int x10), (.int x6), (.int v2)] m32 (fun o m38 => o = .inl none ∧ St m38 ∧ V m12_endSame 262 [some (.ref 668), some (.int v1), some (.int v2), some (.int v3), some (.int v4), some (.int 1), some (.int x6), some (.int x10)] [] m38 K))))))) ∧ ((mI m12 677 (Int32.toNatClampNeg x6)) = 0 → C m12_isIn [(.ref 668), (.int x6), (.int x10)] m12 (fun o m40 => ∃ x42 : Int32, o = .inl (some (.int x42)) ∧ St m40 ∧ ((¬ x42 = 0 → C m12_bind [(.ref 668), (.int x6), (.int x10), (.int v2)] m40 (fun o m44 => o = .inl none ∧ St m44 ∧ V m12_endSame 262 [some (.ref 668), some (.int v1), some (.int v2), some (.int v3), some (.int v4), some (.int 0), some (.int x6), some (.int x10)] [] m44 K)) ∧ (x42 = 0 → C m12_bind [(.ref 668), (.int x6), (.int x10), (.int v2)] m40 (fun o m46 => o = .inl none ∧ St m46 ∧ V m12_endSame 262 [some (.ref 668), some (.int v1), some (.int v2), some (.int v3), some (.int v4), some (.int 1), some (.int x6), some (.int x10)] [] m46 K))))))) ∧ (¬ (mI m12 668 29) = 0 → V m12_endSame 262 [some (.ref 668), some (.int v1), some (.int v2), some (.int v3), some (.int v4), some (.int 0), some (.int x6), some (.int x10)] [] m12 K)))))))))))) : V m12_endSame 42 [some (.ref 668), some (.int v1), some (.int v2), some (.int v3), some (.int v4), some (.int v5), none, none] [] m K := by
  refine r_iload (y := m12_endSame) dX12_endSame_42 rfl ?_
  refine r_if_eq (y := m12_endSame) (tgt := 301) dX12_endSame_44 (by decide) (fun hc1 => ?_) (fun hc1 => ?_)
  · have h := h.1 hc1
    exact h
  · have h := h.2 hc1
    refine r_aload_n (y := m12_endSame) dX12_endSame_47 rfl rfl ?_
    refine g_X12_296 (y := m12_endSame) rfl dX12_endSame_48 hm ?_
    refine r_if_le (y := m12_endSame) (tgt := 301) dX12_endSame_51 (by decide) (fun hc2 => ?_) (fun hc2 => ?_)
    · have h := h.1 hc2
      exact h
    · have h := h.2 hc2
      refine r_aload_n (y := m12_endSame) dX12_endSame_54 rfl rfl ?_
      refine r_dup_r (y := m12_endSame) dX12_endSame_55 ?_
      refine g_X12_296 (y := m12_endSame) rfl dX12_endSame_56 hm ?_
      refine r_iconst (y := m12_endSame) (v := 1) dX12_endSame_59 (by decide) ?_
      refine r_isub (y := m12_endSame) dX12_endSame_60 ?_
      refine p_X12_296 (y := m12_endSame) rfl dX12_endSame_61 hm ?_
      refine r_aload_n (y := m12_endSame) dX12_endSame_64 rfl rfl ?_
      refine r_aload_n (y := m12_endSame) dX12_endSame_65 rfl rfl ?_
      refine g_X12_101 (y := m12_endSame) rfl dX12_endSame_66 (St.i hm) ?_
      refine r_aload_n (y := m12_endSame) dX12_endSame_69 rfl rfl ?_
      refine g_X12_296 (y := m12_endSame) rfl dX12_endSame_70 (St.i hm) ?_
      refine V.top (b := ((mI m 668 42) - 1)) (by first | rfl | simp [mI_set, mI_setR]) ?_
      obtain ⟨hb3, h⟩ := h
      refine r_iald (y := m12_endSame) (n := 6000) dX12_endSame_73 (sa_699 (St.i hm)) hb3 ?_
      refine V.top (b := (mI m 699 (Int32.toNatClampNeg ((mI m 668 42) - 1)))) (by first | rfl | simp [mI_set, mI_setR]) ?_
      refine r_callV (y := m12_endSame) (As := [(.int (mI m 699 (Int32.toNatClampNeg ((mI m 668 42) - 1))))]) (b := 668) (ci := 12) dX12_endSame_74 rfl k12_root lm_X12_280 rfl ⟨by decide, by decide⟩ (so_668 (St.i hm)) (by decide) rfl (Nat.le_of_ble_eq_true rfl) (C.mono h ?_)
      rintro _ m4 ⟨x6, rfl, hm5, h⟩
      refine ⟨_, rfl, ?_⟩
      refine r_istore (y := m12_endSame) (L' := [some (.ref 668), some (.int v1), some (.int v2), some (.int v3), some (.int v4), some (.int v5), some (.int x6), none]) dX12_endSame_77 (Nat.le_of_ble_eq_true rfl) rfl ?_
      refine r_aload_n (y := m12_endSame) dX12_endSame_79 rfl rfl ?_
      refine r_aload_n (y := m12_endSame) dX12_endSame_80 rfl rfl ?_
      refine g_X12_104 (y := m12_endSame) rfl dX12_endSame_81 hm5 ?_
      refine r_aload_n (y := m12_endSame) dX12_endSame_84 rfl rfl ?_
      refine g_X12_296 (y := m12_endSame) rfl dX12_endSame_85 hm5 ?_
      obtain ⟨hb7, h⟩ := h
      refine r_iald (y := m12_endSame) (n := 6000) dX12_endSame_88 (sa_700 hm5) hb7 ?_
      refine r_callV (y := m12_endSame) (As := [(.int (mI m4 700 (Int32.toNatClampNeg (mI m4 668 42))))]) (b := 668) (ci := 12) dX12_endSame_89 rfl k12_root lm_X12_280 rfl ⟨by decide, by decide⟩ (so_668 hm5) (by decide) rfl (Nat.le_of_ble_eq_true rfl) (C.mono h ?_)
      rintro _ m8 ⟨x10, rfl, hm9, h⟩
      refine ⟨_, rfl, ?_⟩
      refine r_istore (y := m12_endSame) (L' := [some (.ref 668), some (.int v1), some (.int v2), some (.int v3), some (.int v4), some (.int v5), some (.int x6), some (.int x10)]) dX12_endSame_92 (Nat.le_of_ble_eq_true rfl) rfl ?_
      refine r_iload (y := m12_endSame) dX12_endSame_94 rfl ?_
      refine r_iload (y := m12_endSame) dX12_endSame_96 rfl ?_
      refine r_icmp_eq (y := m12_endSame) (tgt := 298) dX12_endSame_98 (by decide) (fun hc11 => ?_) (fun hc11 => ?_)
      · have h := h.1 hc11
        exact h
      · have h := h.2 hc11
        refine r_aload_n (y := m12_endSame) dX12_endSame_101 rfl rfl ?_
        refine r_callV (y := m12_endSame) (As := []) (b := 668) (ci := 12) dX12_endSame_102 rfl k12_step lm_X12_254 rfl ⟨by decide, by decide⟩ (so_668 hm9) (by decide) rfl (Nat.le_of_ble_eq_true rfl) (C.mono h ?_)
        rintro _ m12 ⟨rfl, hm13, h⟩
        refine ⟨none, rfl, ?_⟩
        refine r_aload_n (y := m12_endSame) dX12_endSame_105 rfl rfl ?_
        refine g_X12_245 (y := m12_endSame) rfl dX12_endSame_106 hm13 ?_
        refine r_if_eq (y := m12_endSame) (tgt := 118) dX12_endSame_109 (by decide) (fun hc14 => ?_) (fun hc14 => ?_)
        · have h := h.1 hc14
          refine r_aload_n (y := m12_endSame) dX12_endSame_118 rfl rfl ?_
          refine g_X12_35 (y := m12_endSame) rfl dX12_endSame_119 hm13 ?_
          refine r_iload (y := m12_endSame) dX12_endSame_122 rfl ?_
          obtain ⟨hb15, h⟩ := h
          refine r_iald (y := m12_endSame) (n := 6000) dX12_endSame_124 (sa_677 hm13) hb15 ?_
          refine r_if_ne (y := m12_endSame) (tgt := 158) dX12_endSame_125 (by decide) (fun hc16 => ?_) (fun hc16 => ?_)
          · have h := h.1 hc16
            refine r_aload_n (y := m12_endSame) dX12_endSame_158 rfl rfl ?_
            refine g_X12_35 (y := m12_endSame) rfl dX12_endSame_159 hm13 ?_
            refine r_iload (y := m12_endSame) dX12_endSame_162 rfl ?_
            obtain ⟨hb17, h⟩ := h
            refine r_iald (y := m12_endSame) (n := 6000) dX12_endSame_164 (sa_677 hm13) hb17 ?_
            refine r_if_ne (y := m12_endSame) (tgt := 198) dX12_endSame_165 (by decide) (fun hc18 => ?_) (fun hc18 => ?_)
            · have h := h.1 hc18
              refine r_aload_n (y := m12_endSame) dX12_endSame_198 rfl rfl ?_
              refine g_X12_38 (y := m12_endSame) rfl dX12_endSame_199 hm13 ?_
              refine r_iload (y := m12_endSame) dX12_endSame_202 rfl ?_
              obtain ⟨hb19, h⟩ := h
              refine r_iald (y := m12_endSame) (n := 6000) dX12_endSame_204 (sa_678 hm13) hb19 ?_
              refine r_aload_n (y := m12_endSame) dX12_endSame_205 rfl rfl ?_
              refine g_X12_38 (y := m12_endSame) rfl dX12_endSame_206 hm13 ?_
              refine r_iload (y := m12_endSame) dX12_endSame_209 rfl ?_
              obtain ⟨hb20, h⟩ := h
              refine r_iald (y := m12_endSame) (n := 6000) dX12_endSame_211 (sa_678 hm13) hb20 ?_
              refine r_icmp_eq (y := m12_endSame) (tgt := 226) dX12_endSame_212 (by decide) (fun hc21 => ?_) (fun hc21 => ?_)
              · have h := h.1 hc21
                refine r_aload_n (y := m12_endSame) dX12_endSame_226 rfl rfl ?_
                refine r_aload_n (y := m12_endSame) dX12_endSame_227 rfl rfl ?_
                refine g_X12_44 (y := m12_endSame) rfl dX12_endSame_228 hm13 ?_
                refine r_iload (y := m12_endSame) dX12_endSame_231 rfl ?_
                obtain ⟨hb22, h⟩ := h
                refine r_iald (y := m12_endSame) (n := 6000) dX12_endSame_233 (sa_680 hm13) hb22 ?_
                refine r_aload_n (y := m12_endSame) dX12_endSame_234 rfl rfl ?_
                refine g_X12_44 (y := m12_endSame) rfl dX12_endSame_235 hm13 ?_
                refine r_iload (y := m12_endSame) dX12_endSame_238 rfl ?_
                obtain ⟨hb23, h⟩ := h
                refine r_iald (y := m12_endSame) (n := 6000) dX12_endSame_240 (sa_680 hm13) hb23 ?_
                refine r_callV (y := m12_endSame) (As := [(.int (mI m12 680 (Int32.toNatClampNeg x6))), (.int (mI m12 680 (Int32.toNatClampNeg x10)))]) (b := 668) (ci := 12) dX12_endSame_241 rfl k12_pair lm_X12_305 rfl ⟨by decide, by decide⟩ (so_668 hm13) (by decide) rfl (Nat.le_of_ble_eq_true rfl) (C.mono h ?_)
                rintro _ m24 ⟨rfl, hm25, h⟩
                refine ⟨none, rfl, ?_⟩
                refine r_aload_n (y := m12_endSame) dX12_endSame_244 rfl rfl ?_
                refine r_aload_n (y := m12_endSame) dX12_endSame_245 rfl rfl ?_
                refine g_X12_41 (y := m12_endSame) rfl dX12_endSame_246 hm25 ?_
                refine r_iload (y := m12_endSame) dX12_endSame_249 rfl ?_
                obtain ⟨hb26, h⟩ := h
                refine r_iald (y := m12_endSame) (n := 6000) dX12_endSame_251 (sa_679 hm25) hb26 ?_
                refine r_aload_n (y := m12_endSame) dX12_endSame_252 rfl rfl ?_
                refine g_X12_41 (y := m12_endSame) rfl dX12_endSame_253 hm25 ?_
                refine r_iload (y := m12_endSame) dX12_endSame_256 rfl ?_
                obtain ⟨hb27, h⟩ := h
                refine r_iald (y := m12_endSame) (n := 6000) dX12_endSame_258 (sa_679 hm25) hb27 ?_
                refine r_callV (y := m12_endSame) (As := [(.int (mI m24 679 (Int32.toNatClampNeg x6))), (.int (mI m24 679 (Int32.toNatClampNeg x10)))]) (b := 668) (ci := 12) dX12_endSame_259 rfl k12_pair lm_X12_305 rfl ⟨by decide, by decide⟩ (so_668 hm25) (by decide) rfl (Nat.le_of_ble_eq_true rfl) (C.mono h ?_)
                rintro _ m28 ⟨rfl, hm29, h⟩
                refine ⟨none, rfl, ?_⟩
                exact h
              · have h := h.2 hc21
                refine r_iconst (y := m12_endSame) (v := 0) dX12_endSame_215 (by decide) ?_
                refine r_istore (y := m12_endSame) (L' := [some (.ref 668), some (.int v1), some (.int v2), some (.int v3), some (.int v4), some (.int 0), some (.int x6), some (.int x10)]) dX12_endSame_216 (Nat.le_of_ble_eq_true rfl) rfl ?_
                refine r_aload_n (y := m12_endSame) dX12_endSame_218 rfl rfl ?_
                refine r_iload_n (y := m12_endSame) dX12_endSame_219 rfl rfl ?_
                refine r_callV (y := m12_endSame) (As := [(.int v2)]) (b := 668) (ci := 12) dX12_endSame_220 rfl k12_fail lm_X12_270 rfl ⟨by decide, by decide⟩ (so_668 hm13) (by decide) rfl (Nat.le_of_ble_eq_true rfl) (C.mono h ?_)
                rintro _ m30 ⟨rfl, hm31, h⟩
                refine ⟨none, rfl, ?_⟩
                refine r_goto (y := m12_endSame) (tgt := 262) dX12_endSame_223 (by decide) ?_
                exact h
            · have h := h.2 hc18
              refine r_aload_n (y := m12_endSame) dX12_endSame_168 rfl rfl ?_
              refine r_iload (y := m12_endSame) dX12_endSame_169 rfl ?_
              refine r_iload (y := m12_endSame) dX12_endSame_171 rfl ?_
              refine r_callV (y := m12_endSame) (As := [(.int x10), (.int x6)]) (b := 668) (ci := 12) dX12_endSame_173 rfl k12_isIn lm_X12_302 rfl ⟨by decide, by decide⟩ (so_668 hm13) (by decide) rfl (Nat.le_of_ble_eq_true rfl) (C.mono h ?_)
              rintro _ m32 ⟨x34, rfl, hm33, h⟩
              refine ⟨_, rfl, ?_⟩
              refine r_if_ne (y := m12_endSame) (tgt := 183) dX12_endSame_176 (by decide) (fun hc35 => ?_) (fun hc35 => ?_)
              · have h := h.1 hc35
                refine r_iconst (y := m12_endSame) (v := 0) dX12_endSame_183 (by decide) ?_
                refine r_istore (y := m12_endSame) (L' := [some (.ref 668), some (.int v1), some (.int v2), some (.int v3), some (.int v4), some (.int 0), some (.int x6), some (.int x10)]) dX12_endSame_184 (Nat.le_of_ble_eq_true rfl) rfl ?_
                refine r_aload_n (y := m12_endSame) dX12_endSame_186 rfl rfl ?_
                refine r_iload (y := m12_endSame) dX12_endSame_187 rfl ?_
                refine r_iload (y := m12_endSame) dX12_endSame_189 rfl ?_
                refine r_iload_n (y := m12_endSame) dX12_endSame_191 rfl rfl ?_
                refine r_callV (y := m12_endSame) (As := [(.int x10), (.int x6), (.int v2)]) (b := 668) (ci := 12) dX12_endSame_192 rfl k12_bind lm_X12_308 rfl ⟨by decide, by decide⟩ (so_668 hm33) (by decide) rfl (Nat.le_of_ble_eq_true rfl) (C.mono h ?_)
                rintro _ m36 ⟨rfl, hm37, h⟩
                refine ⟨none, rfl, ?_⟩
                refine r_goto (y := m12_endSame) (tgt := 262) dX12_endSame_195 (by decide) ?_
                exact h
              · have h := h.2 hc35
                refine r_iconst (y := m12_endSame) (v := 1) dX12_endSame_179 (by decide) ?_
                refine r_goto (y := m12_endSame) (tgt := 184) dX12_endSame_180 (by decide) ?_
                refine r_istore (y := m12_endSame) (L' := [some (.ref 668), some (.int v1), some (.int v2), some (.int v3), some (.int v4), some (.int 1), some (.int x6), some (.int x10)]) dX12_endSame_184 (Nat.le_of_ble_eq_true rfl) rfl ?_
                refine r_aload_n (y := m12_endSame) dX12_endSame_186 rfl rfl ?_
                refine r_iload (y := m12_endSame) dX12_endSame_187 rfl ?_
                refine r_iload (y := m12_endSame) dX12_endSame_189 rfl ?_
                refine r_iload_n (y := m12_endSame) dX12_endSame_191 rfl rfl ?_
                refine r_callV (y := m12_endSame) (As := [(.int x10), (.int x6), (.int v2)]) (b := 668) (ci := 12) dX12_endSame_192 rfl k12_bind lm_X12_308 rfl ⟨by decide, by decide⟩ (so_668 hm33) (by decide) rfl (Nat.le_of_ble_eq_true rfl) (C.mono h ?_)
                rintro _ m38 ⟨rfl, hm39, h⟩
                refine ⟨none, rfl, ?_⟩
                refine r_goto (y := m12_endSame) (tgt := 262) dX12_endSame_195 (by decide) ?_
                exact h
          · have h := h.2 hc16
            refine r_aload_n (y := m12_endSame) dX12_endSame_128 rfl rfl ?_
            refine r_iload (y := m12_endSame) dX12_endSame_129 rfl ?_
            refine r_iload (y := m12_endSame) dX12_endSame_131 rfl ?_
            refine r_callV (y := m12_endSame) (As := [(.int x6), (.int x10)]) (b := 668) (ci := 12) dX12_endSame_133 rfl k12_isIn lm_X12_302 rfl ⟨by decide, by decide⟩ (so_668 hm13) (by decide) rfl (Nat.le_of_ble_eq_true rfl) (C.mono h ?_)
            rintro _ m40 ⟨x42, rfl, hm41, h⟩
            refine ⟨_, rfl, ?_⟩
            refine r_if_ne (y := m12_endSame) (tgt := 143) dX12_endSame_136 (by decide) (fun hc43 => ?_) (fun hc43 => ?_)
            · have h := h.1 hc43
              refine r_iconst (y := m12_endSame) (v := 0) dX12_endSame_143 (by decide) ?_
              refine r_istore (y := m12_endSame) (L' := [some (.ref 668), some (.int v1), some (.int v2), some (.int v3), some (.int v4), some (.int 0), some (.int x6), some (.int x10)]) dX12_endSame_144 (Nat.le_of_ble_eq_true rfl) rfl ?_
              refine r_aload_n (y := m12_endSame) dX12_endSame_146 rfl rfl ?_
              refine r_iload (y := m12_endSame) dX12_endSame_147 rfl ?_
              refine r_iload (y := m12_endSame) dX12_endSame_149 rfl ?_
              refine r_iload_n (y := m12_endSame) dX12_endSame_151 rfl rfl ?_
              refine r_callV (y := m12_endSame) (As := [(.int x6), (.int x10), (.int v2)]) (b := 668) (ci := 12) dX12_endSame_152 rfl k12_bind lm_X12_308 rfl ⟨by decide, by decide⟩ (so_668 hm41) (by decide) rfl (Nat.le_of_ble_eq_true rfl) (C.mono h ?_)
              rintro _ m44 ⟨rfl, hm45, h⟩
              refine ⟨none, rfl, ?_⟩
              refine r_goto (y := m12_endSame) (tgt := 262) dX12_endSame_155 (by decide) ?_
              exact h
            · have h := h.2 hc43
              refine r_iconst (y := m12_endSame) (v := 1) dX12_endSame_139 (by decide) ?_
              refine r_goto (y := m12_endSame) (tgt := 144) dX12_endSame_140 (by decide) ?_
              refine r_istore (y := m12_endSame) (L' := [some (.ref 668), some (.int v1), some (.int v2), some (.int v3), some (.int v4), some (.int 1), some (.int x6), some (.int x10)]) dX12_endSame_144 (Nat.le_of_ble_eq_true rfl) rfl ?_
              refine r_aload_n (y := m12_endSame) dX12_endSame_146 rfl rfl ?_
              refine r_iload (y := m12_endSame) dX12_endSame_147 rfl ?_
              refine r_iload (y := m12_endSame) dX12_endSame_149 rfl ?_
              refine r_iload_n (y := m12_endSame) dX12_endSame_151 rfl rfl ?_
              refine r_callV (y := m12_endSame) (As := [(.int x6), (.int x10), (.int v2)]) (b := 668) (ci := 12) dX12_endSame_152 rfl k12_bind lm_X12_308 rfl ⟨by decide, by decide⟩ (so_668 hm41) (by decide) rfl (Nat.le_of_ble_eq_true rfl) (C.mono h ?_)
              rintro _ m46 ⟨rfl, hm47, h⟩
              refine ⟨none, rfl, ?_⟩
              refine r_goto (y := m12_endSame) (tgt := 262) dX12_endSame_155 (by decide) ?_
              exact h
        · have h := h.2 hc14
          refine r_iconst (y := m12_endSame) (v := 0) dX12_endSame_112 (by decide) ?_
          refine r_istore (y := m12_endSame) (L' := [some (.ref 668), some (.int v1), some (.int v2), some (.int v3), some (.int v4), some (.int 0), some (.int x6), some (.int x10)]) dX12_endSame_113 (Nat.le_of_ble_eq_true rfl) rfl ?_
          refine r_goto (y := m12_endSame) (tgt := 262) dX12_endSame_115 (by decide) ?_
          exact h
