/-! written by gen/wexp.py -/
set_option maxHeartbeats 4000000 in
set_option maxRecDepth 100000 in
theorem w0_init_104 {m : Mm} {K : Option Value ⊕ String → Mm → Prop} (hm : St m) {ee0 nn0 : Nat} {v2 : Int32} {ee3 nn3 : Nat} {v4 : Int32} (hee0 : isExp m ee0 nn0) (hee3 : mS m ee3 = (13, nn3)) (h : ((v4 < 0 → K (.inl none) m) ∧ (¬ v4 < 0 → vp_in v4 nn3 ∧ V m0_init 115 [some (.ref ee0), some (.ref 1), some (.int v2), some (.ref ee3), some (.int v4), some (.int (mI m ee3 (Int32.toNatClampNeg v4))), none, none] [] m K))) : V m0_init 104 [some (.ref ee0), some (.ref 1), some (.int v2), some (.ref ee3), some (.int v4), none, none, none] [] m K := by
  refine r_iload (y := m0_init) dX0_init_104 rfl ?_
  refine r_if_lt (y := m0_init) (tgt := 346) dX0_init_106 (by decide) (fun hc1 => ?_) (fun hc1 => ?_)
  · have h := h.1 hc1
    exact r_ret (y := m0_init) dX0_init_346 rfl h
  · have h := h.2 hc1
    refine r_aload_n (y := m0_init) dX0_init_109 rfl rfl ?_
    refine r_iload (y := m0_init) dX0_init_110 rfl ?_
    obtain ⟨hb2, h⟩ := h
    refine r_iald (y := m0_init) (n := nn3) dX0_init_112 hee3 hb2 ?_
    refine r_istore (y := m0_init) (L' := [some (.ref ee0), some (.ref 1), some (.int v2), some (.ref ee3), some (.int v4), some (.int (mI m ee3 (Int32.toNatClampNeg v4))), none, none]) dX0_init_113 (Nat.le_of_ble_eq_true rfl) rfl ?_
    exact h
set_option maxHeartbeats 4000000 in
set_option maxRecDepth 100000 in
theorem w0_init_115 {m : Mm} {K : Option Value ⊕ String → Mm → Prop} (hm : St m) {ee0 nn0 : Nat} {v2 : Int32} {ee3 nn3 : Nat} {v4 : Int32} {v5 : Int32} (hee0 : isExp m ee0 nn0) (hee3 : mS m ee3 = (13, nn3)) (h : vp_in v5 80 ∧ vp_in v4 nn0 ∧ vp_in v5 80 ∧ vp_in v4 nn0 ∧ vp_in v5 80 ∧ vp_in v4 nn0 ∧ vp_in v4 nn0 ∧ ((¬ (mI (mSetI (mSetI (mSetI m (ee0 + 1) (Int32.toNatClampNeg v4) (mI m 2 (Int32.toNatClampNeg v5))) (ee0 + 2) (Int32.toNatClampNeg v4) (mI (mSetI m (ee0 + 1) (Int32.toNatClampNeg v4) (mI m 2 (Int32.toNatClampNeg v5))) 3 (Int32.toNatClampNeg v5))) (ee0 + 5) (Int32.toNatClampNeg v4) ((v4 + 1) - (mI (mSetI (mSetI m (ee0 + 1) (Int32.toNatClampNeg v4) (mI m 2 (Int32.toNatClampNeg v5))) (ee0 + 2) (Int32.toNatClampNeg v4) (mI (mSetI m (ee0 + 1) (Int32.toNatClampNeg v4) (mI m 2 (Int32.toNatClampNeg v5))) 3 (Int32.toNatClampNeg v5))) 6 (Int32.toNatClampNeg v5)))) (ee0 + 1) (Int32.toNatClampNeg v4)) = 6 → vp_in v4 nn0 ∧ V m0_init 195 [some (.ref ee0), some (.ref 1), some (.int v2), some (.ref ee3), some (.int v4), some (.int v5), some (.int (mI (mSetI (mSetI (mSetI m (ee0 + 1) (Int32.toNatClampNeg v4) (mI m 2 (Int32.toNatClampNeg v5))) (ee0 + 2) (Int32.toNatClampNeg v4) (mI (mSetI m (ee0 + 1) (Int32.toNatClampNeg v4) (mI m 2 (Int32.toNatClampNeg v5))) 3 (Int32.toNatClampNeg v5))) (ee0 + 5) (Int32.toNatClampNeg v4) ((v4 + 1) - (mI (mSetI (mSetI m (ee0 + 1) (Int32.toNatClampNeg v4) (mI m 2 (Int32.toNatClampNeg v5))) (ee0 + 2) (Int32.toNatClampNeg v4) (mI (mSetI m (ee0 + 1) (Int32.toNatClampNeg v4) (mI m 2 (Int32.toNatClampNeg v5))) 3 (Int32.toNatClampNeg v5))) 6 (Int32.toNatClampNeg v5)))) (ee0 + 6) (Int32.toNatClampNeg v4))), none] [] (mSetI (mSetI (mSetI m (ee0 + 1) (Int32.toNatClampNeg v4) (mI m 2 (Int32.toNatClampNeg v5))) (ee0 + 2) (Int32.toNatClampNeg v4) (mI (mSetI m (ee0 + 1) (Int32.toNatClampNeg v4) (mI m 2 (Int32.toNatClampNeg v5))) 3 (Int32.toNatClampNeg v5))) (ee0 + 5) (Int32.toNatClampNeg v4) ((v4 + 1) - (mI (mSetI (mSetI m (ee0 + 1) (Int32.toNatClampNeg v4) (mI m 2 (Int32.toNatClampNeg v5))) (ee0 + 2) (Int32.toNatClampNeg v4) (mI (mSetI m (ee0 + 1) (Int32.toNatClampNeg v4) (mI m 2 (Int32.toNatClampNeg v5))) 3 (Int32.toNatClampNeg v5))) 6 (Int32.toNatClampNeg v5)))) K) ∧ ((mI (mSetI (mSetI (mSetI m (ee0 + 1) (Int32.toNatClampNeg v4) (mI m 2 (Int32.toNatClampNeg v5))) (ee0 + 2) (Int32.toNatClampNeg v4) (mI (mSetI m (ee0 + 1) (Int32.toNatClampNeg v4) (mI m 2 (Int32.toNatClampNeg v5))) 3 (Int32.toNatClampNeg v5))) (ee0 + 5) (Int32.toNatClampNeg v4) ((v4 + 1) - (mI (mSetI (mSetI m (ee0 + 1) (Int32.toNatClampNeg v4) (mI m 2 (Int32.toNatClampNeg v5))) (ee0 + 2) (Int32.toNatClampNeg v4) (mI (mSetI m (ee0 + 1) (Int32.toNatClampNeg v4) (mI m 2 (Int32.toNatClampNeg v5))) 3 (Int32.toNatClampNeg v5))) 6 (Int32.toNatClampNeg v5)))) (ee0 + 1) (Int32.toNatClampNeg v4)) = 6 → vp_in v4 nn0 ∧ V m0_init 195 [some (.ref ee0), some (.ref 1), some (.int v2), some (.ref ee3), some (.int v4), some (.int v5), some (.int ((mI (mSetI (mSetI (mSetI m (ee0 + 1) (Int32.toNatClampNeg v4) (mI m 2 (Int32.toNatClampNeg v5))) (ee0 + 2) (Int32.toNatClampNeg v4) (mI (mSetI m (ee0 + 1) (Int32.toNatClampNeg v4) (mI m 2 (Int32.toNatClampNeg v5))) 3 (Int32.toNatClampNeg v5))) (ee0 + 5) (Int32.toNatClampNeg v4) ((v4 + 1) - (mI (mSetI (mSetI m (ee0 + 1) (Int32.toNatClampNeg v4) (mI m 2 (Int32.toNatClampNeg v5))) (ee0 + 2) (Int32.toNatClampNeg v4) (mI (mSetI m (ee0 + 1) (Int32.toNatClampNeg v4) (mI m 2 (Int32.toNatClampNeg v5))) 3 (Int32.toNatClampNeg v5))) 6 (Int32.toNatClampNeg v5)))) (ee0 + 6) (Int32.toNatClampNeg v4)) + 1)), none] [] (mSetI (mSetI (mSetI m (ee0 + 1) (Int32.toNatClampNeg v4) (mI m 2 (Int32.toNatClampNeg v5))) (ee0 + 2) (Int32.toNatClampNeg v4) (mI (mSetI m (ee0 + 1) (Int32.toNatClampNeg v4) (mI m 2 (Int32.toNatClampNeg v5))) 3 (Int32.toNatClampNeg v5))) (ee0 + 5) (Int32.toNatClampNeg v4) ((v4 + 1) - (mI (mSetI (mSetI m (ee0 + 1) (Int32.toNatClampNeg v4) (mI m 2 (Int32.toNatClampNeg v5))) (ee0 + 2) (Int32.toNatClampNeg v4) (mI (mSetI m (ee0 + 1) (Int32.toNatClampNeg v4) (mI m 2 (Int32.toNatClampNeg v5))) 3 (Int32.toNatClampNeg v5))) 6 (Int32.toNatClampNeg v5)))) K))) : V m0_init 115 [some (.ref ee0), some (.ref 1), some (.int v2), some (.ref ee3), some (.int v4), some (.int v5), none, none] [] m K := by
  refine r_aload_n (y := m0_init) dX0_init_115 rfl rfl ?_
  refine g_X0_21 (y := m0_init) rfl dX0_init_116 hee0 ?_
  refine r_iload (y := m0_init) dX0_init_119 rfl ?_
  refine r_aload_n (y := m0_init) dX0_init_121 rfl rfl ?_
  refine g_X0_40 (y := m0_init) rfl dX0_init_122 hm ?_
  refine r_iload (y := m0_init) dX0_init_125 rfl ?_
  obtain ⟨hb1, h⟩ := h
  refine r_iald (y := m0_init) (n := 80) dX0_init_127 (sa_2 hm) hb1 ?_
  obtain ⟨hb2, h⟩ := h
  refine r_iast (y := m0_init) (n := nn0) dX0_init_128 (hee0.2 1 (by decide) (by decide)).2 hb2 ?_
  refine r_aload_n (y := m0_init) dX0_init_129 rfl rfl ?_
  refine g_X0_25 (y := m0_init) rfl dX0_init_130 hee0 ?_
  refine r_iload (y := m0_init) dX0_init_133 rfl ?_
  refine r_aload_n (y := m0_init) dX0_init_135 rfl rfl ?_
  refine g_X0_41 (y := m0_init) rfl dX0_init_136 (St.i hm) ?_
  refine r_iload (y := m0_init) dX0_init_139 rfl ?_
  obtain ⟨hb3, h⟩ := h
  refine r_iald (y := m0_init) (n := 80) dX0_init_141 (sa_3 (St.i hm)) hb3 ?_
  obtain ⟨hb4, h⟩ := h
  refine r_iast (y := m0_init) (n := nn0) dX0_init_142 (hee0.2 2 (by decide) (by decide)).2 hb4 ?_
  refine r_aload_n (y := m0_init) dX0_init_143 rfl rfl ?_
  refine g_X0_34 (y := m0_init) rfl dX0_init_144 hee0 ?_
  refine r_iload (y := m0_init) dX0_init_147 rfl ?_
  refine r_iload (y := m0_init) dX0_init_149 rfl ?_
  refine r_iconst (y := m0_init) (v := 1) dX0_init_151 (by decide) ?_
  refine r_iadd (y := m0_init) dX0_init_152 ?_
  refine r_aload_n (y := m0_init) dX0_init_153 rfl rfl ?_
  refine g_X0_42 (y := m0_init) rfl dX0_init_154 (St.i (St.i hm)) ?_
  refine r_iload (y := m0_init) dX0_init_157 rfl ?_
  obtain ⟨hb5, h⟩ := h
  refine r_iald (y := m0_init) (n := 80) dX0_init_159 (sa_6 (St.i (St.i hm))) hb5 ?_
  refine r_isub (y := m0_init) dX0_init_160 ?_
  obtain ⟨hb6, h⟩ := h
  refine r_iast (y := m0_init) (n := nn0) dX0_init_161 (hee0.2 5 (by decide) (by decide)).2 hb6 ?_
  refine r_aload_n (y := m0_init) dX0_init_162 rfl rfl ?_
  refine g_X0_21 (y := m0_init) rfl dX0_init_163 hee0 ?_
  refine r_iload (y := m0_init) dX0_init_166 rfl ?_
  obtain ⟨hb7, h⟩ := h
  refine r_iald (y := m0_init) (n := nn0) dX0_init_168 (hee0.2 1 (by decide) (by decide)).2 hb7 ?_
  refine r_bipush (y := m0_init) (v := 6) dX0_init_169 (by decide) ?_
  refine r_icmp_ne (y := m0_init) (tgt := 186) dX0_init_171 (by decide) (fun hc8 => ?_) (fun hc8 => ?_)
  · have h := h.1 hc8
    refine r_aload_n (y := m0_init) dX0_init_186 rfl rfl ?_
    refine g_X0_37 (y := m0_init) rfl dX0_init_187 hee0 ?_
    refine r_iload (y := m0_init) dX0_init_190 rfl ?_
    obtain ⟨hb9, h⟩ := h
    refine r_iald (y := m0_init) (n := nn0) dX0_init_192 (hee0.2 6 (by decide) (by decide)).2 hb9 ?_
    refine r_istore (y := m0_init) (L' := [some (.ref ee0), some (.ref 1), some (.int v2), some (.ref ee3), some (.int v4), some (.int v5), some (.int (mI (mSetI (mSetI (mSetI m (ee0 + 1) (Int32.toNatClampNeg v4) (mI m 2 (Int32.toNatClampNeg v5))) (ee0 + 2) (Int32.toNatClampNeg v4) (mI (mSetI m (ee0 + 1) (Int32.toNatClampNeg v4) (mI m 2 (Int32.toNatClampNeg v5))) 3 (Int32.toNatClampNeg v5))) (ee0 + 5) (Int32.toNatClampNeg v4) ((v4 + 1) - (mI (mSetI (mSetI m (ee0 + 1) (Int32.toNatClampNeg v4) (mI m 2 (Int32.toNatClampNeg v5))) (ee0 + 2) (Int32.toNatClampNeg v4) (mI (mSetI m (ee0 + 1) (Int32.toNatClampNeg v4) (mI m 2 (Int32.toNatClampNeg v5))) 3 (Int32.toNatClampNeg v5))) 6 (Int32.toNatClampNeg v5)))) (ee0 + 6) (Int32.toNatClampNeg v4))), none]) dX0_init_193 (Nat.le_of_ble_eq_true rfl) rfl ?_
    exact h
  · have h := h.2 hc8
    refine r_aload_n (y := m0_init) dX0_init_174 rfl rfl ?_
    refine g_X0_37 (y := m0_init) rfl dX0_init_175 hee0 ?_
    refine r_iload (y := m0_init) dX0_init_178 rfl ?_
    obtain ⟨hb10, h⟩ := h
    refine r_iald (y := m0_init) (n := nn0) dX0_init_180 (hee0.2 6 (by decide) (by decide)).2 hb10 ?_
    refine r_iconst (y := m0_init) (v := 1) dX0_init_181 (by decide) ?_
    refine r_iadd (y := m0_init) dX0_init_182 ?_
    refine r_goto (y := m0_init) (tgt := 193) dX0_init_183 (by decide) ?_
    refine r_istore (y := m0_init) (L' := [some (.ref ee0), some (.ref 1), some (.int v2), some (.ref ee3), some (.int v4), some (.int v5), some (.int ((mI (mSetI (mSetI (mSetI m (ee0 + 1) (Int32.toNatClampNeg v4) (mI m 2 (Int32.toNatClampNeg v5))) (ee0 + 2) (Int32.toNatClampNeg v4) (mI (mSetI m (ee0 + 1) (Int32.toNatClampNeg v4) (mI m 2 (Int32.toNatClampNeg v5))) 3 (Int32.toNatClampNeg v5))) (ee0 + 5) (Int32.toNatClampNeg v4) ((v4 + 1) - (mI (mSetI (mSetI m (ee0 + 1) (Int32.toNatClampNeg v4) (mI m 2 (Int32.toNatClampNeg v5))) (ee0 + 2) (Int32.toNatClampNeg v4) (mI (mSetI m (ee0 + 1) (Int32.toNatClampNeg v4) (mI m 2 (Int32.toNatClampNeg v5))) 3 (Int32.toNatClampNeg v5))) 6 (Int32.toNatClampNeg v5)))) (ee0 + 6) (Int32.toNatClampNeg v4)) + 1)), none]) dX0_init_193 (Nat.le_of_ble_eq_true rfl) rfl ?_
    exact h
set_option maxHeartbeats 4000000 in
set_option maxRecDepth 100000 in
theorem w0_init_195 {m : Mm} {K : Option Value ⊕ String → Mm → Prop} (hm : St m) {ee0 nn0 : Nat} {v2 : Int32} {ee3 nn3 : Nat} {v4 : Int32} {v5 : Int32} {v6 : Int32} (hee0 : isExp m ee0 nn0) (hee3 : mS m ee3 = (13, nn3)) (h : vp_in v5 80 ∧ C m4_sizeOf [(.ref 1), (.int (mI m 5 (Int32.toNatClampNeg v5)))] m (fun o m2 => ∃ x4 : Int32, o = .inl (some (.int x4)) ∧ St m2 ∧ V m0_init 208 [some (.ref ee0), some (.ref 1), some (.int v2), some (.ref ee3), some (.int v4), some (.int v5), some (.int v6), some (.int x4)] [] m2 K)) : V m0_init 195 [some (.ref ee0), some (.ref 1), some (.int v2), some (.ref ee3), some (.int v4), some (.int v5), some (.int v6), none] [] m K := by
  refine r_aload_n (y := m0_init) dX0_init_195 rfl rfl ?_
  refine r_aload_n (y := m0_init) dX0_init_196 rfl rfl ?_
  refine g_X0_45 (y := m0_init) rfl dX0_init_197 hm ?_
  refine r_iload (y := m0_init) dX0_init_200 rfl ?_
  obtain ⟨hb1, h⟩ := h
  refine r_iald (y := m0_init) (n := 80) dX0_init_202 (sa_5 hm) hb1 ?_
  refine r_callVN (y := m0_init) (As := [(.int (mI m 5 (Int32.toNatClampNeg v5)))]) (b := 1) (ci := 4) dX0_init_203 rfl k4_sizeOf lm_X0_9 rfl ⟨by decide, by decide⟩ (so_1 hm) (by decide) rfl (Nat.le_of_ble_eq_true rfl) (C.mono h ?_)
  rintro _ m2 ⟨x4, rfl, hm3, h⟩
  refine ⟨_, rfl, ?_⟩
  refine r_istore (y := m0_init) (L' := [some (.ref ee0), some (.ref 1), some (.int v2), some (.ref ee3), some (.int v4), some (.int v5), some (.int v6), some (.int x4)]) dX0_init_206 (Nat.le_of_ble_eq_true rfl) rfl ?_
  exact h
set_option maxHeartbeats 4000000 in
set_option maxRecDepth 100000 in
theorem w0_init_208 {m : Mm} {K : Option Value ⊕ String → Mm → Prop} (hm : St m) {ee0 nn0 : Nat} {v2 : Int32} {ee3 nn3 : Nat} {v4 : Int32} {v5 : Int32} {v6 : Int32} {v7 : Int32} (hee0 : isExp m ee0 nn0) (hee3 : mS m ee3 = (13, nn3)) (h : ((v7 ≤ 0 → vp_in v4 nn0 ∧ V m0_init 228 [some (.ref ee0), some (.ref 1), some (.int v2), some (.ref ee3), some (.int v4), some (.int v5), some (.int v6), some (.int v7)] [] (mSetI m (ee0 + 4) (Int32.toNatClampNeg v4) (-1)) K) ∧ (¬ v7 ≤ 0 → vp_in v4 nn0 ∧ V m0_init 228 [some (.ref ee0), some (.ref 1), some (.int v2), some (.ref ee3), some (.int v4), some (.int v5), some (.int v6), some (.int v7)] [] (mSetI m (ee0 + 4) (Int32.toNatClampNeg v4) (v4 - 1)) K))) : V m0_init 208 [some (.ref ee0), some (.ref 1), some (.int v2), some (.ref ee3), some (.int v4), some (.int v5), some (.int v6), some (.int v7)] [] m K := by
  refine r_aload_n (y := m0_init) dX0_init_208 rfl rfl ?_
  refine g_X0_31 (y := m0_init) rfl dX0_init_209 hee0 ?_
  refine r_iload (y := m0_init) dX0_init_212 rfl ?_
  refine r_iload (y := m0_init) dX0_init_214 rfl ?_
  refine r_if_le (y := m0_init) (tgt := 226) dX0_init_216 (by decide) (fun hc1 => ?_) (fun hc1 => ?_)
  · have h := h.1 hc1
    refine r_iconst (y := m0_init) (v := (-1)) dX0_init_226 (by decide) ?_
    obtain ⟨hb2, h⟩ := h
    refine r_iast (y := m0_init) (n := nn0) dX0_init_227 (hee0.2 4 (by decide) (by decide)).2 hb2 ?_
    exact h
  · have h := h.2 hc1
    refine r_iload (y := m0_init) dX0_init_219 rfl ?_
    refine r_iconst (y := m0_init) (v := 1) dX0_init_221 (by decide) ?_
    refine r_isub (y := m0_init) dX0_init_222 ?_
    refine r_goto (y := m0_init) (tgt := 227) dX0_init_223 (by decide) ?_
    obtain ⟨hb3, h⟩ := h
    refine r_iast (y := m0_init) (n := nn0) dX0_init_227 (hee0.2 4 (by decide) (by decide)).2 hb3 ?_
    exact h
set_option maxHeartbeats 4000000 in
set_option maxRecDepth 100000 in
theorem w0_init_228 {m : Mm} {K : Option Value ⊕ String → Mm → Prop} (hm : St m) {ee0 nn0 : Nat} {v2 : Int32} {ee3 nn3 : Nat} {v4 : Int32} {v5 : Int32} {v6 : Int32} {v7 : Int32} (hee0 : isExp m ee0 nn0) (hee3 : mS m ee3 = (13, nn3)) (h : vp_in v5 80 ∧ C m4_sizeOf [(.ref 1), (.int (mI m 4 (Int32.toNatClampNeg v5)))] m (fun o m2 => ∃ x4 : Int32, o = .inl (some (.int x4)) ∧ St m2 ∧ ((x4 ≤ 0 → isExp m2 ee0 nn0 ∧ vp_in v4 nn0 ∧ V m0_init 260 [some (.ref ee0), some (.ref 1), some (.int v2), some (.ref ee3), some (.int v4), some (.int v5), some (.int v6), some (.int v7)] [] (mSetI m2 (ee0 + 3) (Int32.toNatClampNeg v4) (-1)) K) ∧ (¬ x4 ≤ 0 → isExp m2 ee0 nn0 ∧ vp_in v4 nn0 ∧ V m0_init 260 [some (.ref ee0), some (.ref 1), some (.int v2), some (.ref ee3), some (.int v4), some (.int v5), some (.int v6), some (.int v7)] [] (mSetI m2 (ee0 + 3) (Int32.toNatClampNeg v4) ((v4 - 1) - v7)) K)))) : V m0_init 228 [some (.ref ee0), some (.ref 1), some (.int v2), some (.ref ee3), some (.int v4), some (.int v5), some (.int v6), some (.int v7)] [] m K := by
  refine r_aload_n (y := m0_init) dX0_init_228 rfl rfl ?_
  refine g_X0_28 (y := m0_init) rfl dX0_init_229 hee0 ?_
  refine r_iload (y := m0_init) dX0_init_232 rfl ?_
  refine r_aload_n (y := m0_init) dX0_init_234 rfl rfl ?_
  refine r_aload_n (y := m0_init) dX0_init_235 rfl rfl ?_
  refine g_X0_46 (y := m0_init) rfl dX0_init_236 hm ?_
  refine r_iload (y := m0_init) dX0_init_239 rfl ?_
  obtain ⟨hb1, h⟩ := h
  refine r_iald (y := m0_init) (n := 80) dX0_init_241 (sa_4 hm) hb1 ?_
  refine r_callVN (y := m0_init) (As := [(.int (mI m 4 (Int32.toNatClampNeg v5)))]) (b := 1) (ci := 4) dX0_init_242 rfl k4_sizeOf lm_X0_9 rfl ⟨by decide, by decide⟩ (so_1 hm) (by decide) rfl (Nat.le_of_ble_eq_true rfl) (C.mono h ?_)
  rintro _ m2 ⟨x4, rfl, hm3, h⟩
  refine ⟨_, rfl, ?_⟩
  refine r_if_le (y := m0_init) (tgt := 258) dX0_init_245 (by decide) (fun hc5 => ?_) (fun hc5 => ?_)
  · have h := h.1 hc5
    refine r_iconst (y := m0_init) (v := (-1)) dX0_init_258 (by decide) ?_
    obtain ⟨hx6, h⟩ := h
    obtain ⟨hb7, h⟩ := h
    refine r_iast (y := m0_init) (n := nn0) dX0_init_259 (hx6.2 3 (by decide) (by decide)).2 hb7 ?_
    exact h
  · have h := h.2 hc5
    refine r_iload (y := m0_init) dX0_init_248 rfl ?_
    refine r_iconst (y := m0_init) (v := 1) dX0_init_250 (by decide) ?_
    refine r_isub (y := m0_init) dX0_init_251 ?_
    refine r_iload (y := m0_init) dX0_init_252 rfl ?_
    refine r_isub (y := m0_init) dX0_init_254 ?_
    refine r_goto (y := m0_init) (tgt := 259) dX0_init_255 (by decide) ?_
    obtain ⟨hx8, h⟩ := h
    obtain ⟨hb9, h⟩ := h
    refine r_iast (y := m0_init) (n := nn0) dX0_init_259 (hx8.2 3 (by decide) (by decide)).2 hb9 ?_
    exact h
set_option maxHeartbeats 4000000 in
set_option maxRecDepth 100000 in
theorem w0_init_260 {m : Mm} {K : Option Value ⊕ String → Mm → Prop} (hm : St m) {ee0 nn0 : Nat} {v2 : Int32} {ee3 nn3 : Nat} {v4 : Int32} {v5 : Int32} {v6 : Int32} {v7 : Int32} (hee0 : isExp m ee0 nn0) (hee3 : mS m ee3 = (13, nn3)) (h : vp_in v4 nn0 ∧ (((mI m (ee0 + 4) (Int32.toNatClampNeg v4)) < 0 → V m0_init 300 [some (.ref ee0), some (.ref 1), some (.int v2), some (.ref ee3), some (.int v4), some (.int v5), some (.int v6), some (.int v7)] [] m K) ∧ (¬ (mI m (ee0 + 4) (Int32.toNatClampNeg v4)) < 0 → vp_in v4 nn0 ∧ vp_in v5 80 ∧ vp_in (mI m (ee0 + 4) (Int32.toNatClampNeg v4)) nn3 ∧ vp_in v4 nn0 ∧ vp_in (mI (mSetI m ee3 (Int32.toNatClampNeg (mI m (ee0 + 4) (Int32.toNatClampNeg v4))) (mI m 5 (Int32.toNatClampNeg v5))) (ee0 + 4) (Int32.toNatClampNeg v4)) nn0 ∧ V m0_init 300 [some (.ref ee0), some (.ref 1), some (.int v2), some (.ref ee3), some (.int v4), some (.int v5), some (.int v6), some (.int v7)] [] (mSetI (mSetI m ee3 (Int32.toNatClampNeg (mI m (ee0 + 4) (Int32.toNatClampNeg v4))) (mI m 5 (Int32.toNatClampNeg v5))) (ee0 + 6) (Int32.toNatClampNeg (mI (mSetI m ee3 (Int32.toNatClampNeg (mI m (ee0 + 4) (Int32.toNatClampNeg v4))) (mI m 5 (Int32.toNatClampNeg v5))) (ee0 + 4) (Int32.toNatClampNeg v4))) v6) K))) : V m0_init 260 [some (.ref ee0), some (.ref 1), some (.int v2), some (.ref ee3), some (.int v4), some (.int v5), some (.int v6), some (.int v7)] [] m K := by
  refine r_aload_n (y := m0_init) dX0_init_260 rfl rfl ?_
  refine g_X0_31 (y := m0_init) rfl dX0_init_261 hee0 ?_
  refine r_iload (y := m0_init) dX0_init_264 rfl ?_
  obtain ⟨hb1, h⟩ := h
  refine r_iald (y := m0_init) (n := nn0) dX0_init_266 (hee0.2 4 (by decide) (by decide)).2 hb1 ?_
  refine r_if_lt (y := m0_init) (tgt := 300) dX0_init_267 (by decide) (fun hc2 => ?_) (fun hc2 => ?_)
  · have h := h.1 hc2
    exact h
  · have h := h.2 hc2
    refine r_aload_n (y := m0_init) dX0_init_270 rfl rfl ?_
    refine r_aload_n (y := m0_init) dX0_init_271 rfl rfl ?_
    refine g_X0_31 (y := m0_init) rfl dX0_init_272 hee0 ?_
    refine r_iload (y := m0_init) dX0_init_275 rfl ?_
    obtain ⟨hb3, h⟩ := h
    refine r_iald (y := m0_init) (n := nn0) dX0_init_277 (hee0.2 4 (by decide) (by decide)).2 hb3 ?_
    refine r_aload_n (y := m0_init) dX0_init_278 rfl rfl ?_
    refine g_X0_45 (y := m0_init) rfl dX0_init_279 hm ?_
    refine r_iload (y := m0_init) dX0_init_282 rfl ?_
    obtain ⟨hb4, h⟩ := h
    refine r_iald (y := m0_init) (n := 80) dX0_init_284 (sa_5 hm) hb4 ?_
    obtain ⟨hb5, h⟩ := h
    refine r_iast (y := m0_init) (n := nn3) dX0_init_285 hee3 hb5 ?_
    refine r_aload_n (y := m0_init) dX0_init_286 rfl rfl ?_
    refine g_X0_37 (y := m0_init) rfl dX0_init_287 hee0 ?_
    refine r_aload_n (y := m0_init) dX0_init_290 rfl rfl ?_
    refine g_X0_31 (y := m0_init) rfl dX0_init_291 hee0 ?_
    refine r_iload (y := m0_init) dX0_init_294 rfl ?_
    obtain ⟨hb6, h⟩ := h
    refine r_iald (y := m0_init) (n := nn0) dX0_init_296 (hee0.2 4 (by decide) (by decide)).2 hb6 ?_
    refine r_iload (y := m0_init) dX0_init_297 rfl ?_
    obtain ⟨hb7, h⟩ := h
    refine r_iast (y := m0_init) (n := nn0) dX0_init_299 (hee0.2 6 (by decide) (by decide)).2 hb7 ?_
    exact h
set_option maxHeartbeats 4000000 in
set_option maxRecDepth 100000 in
theorem w0_init_300 {m : Mm} {K : Option Value ⊕ String → Mm → Prop} (hm : St m) {ee0 nn0 : Nat} {v2 : Int32} {ee3 nn3 : Nat} {v4 : Int32} {v5 : Int32} {v6 : Int32} {v7 : Int32} (hee0 : isExp m ee0 nn0) (hee3 : mS m ee3 = (13, nn3)) (h : vp_in v4 nn0 ∧ (((mI m (ee0 + 3) (Int32.toNatClampNeg v4)) < 0 → V m0_init 340 [some (.ref ee0), some (.ref 1), some (.int v2), some (.ref ee3), some (.int v4), some (.int v5), some (.int v6), some (.int v7)] [] m K) ∧ (¬ (mI m (ee0 + 3) (Int32.toNatClampNeg v4)) < 0 → vp_in v4 nn0 ∧ vp_in v5 80 ∧ vp_in (mI m (ee0 + 3) (Int32.toNatClampNeg v4)) nn3 ∧ vp_in v4 nn0 ∧ vp_in (mI (mSetI m ee3 (Int32.toNatClampNeg (mI m (ee0 + 3) (Int32.toNatClampNeg v4))) (mI m 4 (Int32.toNatClampNeg v5))) (ee0 + 3) (Int32.toNatClampNeg v4)) nn0 ∧ V m0_init 340 [some (.ref ee0), some (.ref 1), some (.int v2), some (.ref ee3), some (.int v4), some (.int v5), some (.int v6), some (.int v7)] [] (mSetI (mSetI m ee3 (Int32.toNatClampNeg (mI m (ee0 + 3) (Int32.toNatClampNeg v4))) (mI m 4 (Int32.toNatClampNeg v5))) (ee0 + 6) (Int32.toNatClampNeg (mI (mSetI m ee3 (Int32.toNatClampNeg (mI m (ee0 + 3) (Int32.toNatClampNeg v4))) (mI m 4 (Int32.toNatClampNeg v5))) (ee0 + 3) (Int32.toNatClampNeg v4))) v6) K))) : V m0_init 300 [some (.ref ee0), some (.ref 1), some (.int v2), some (.ref ee3), some (.int v4), some (.int v5), some (.int v6), some (.int v7)] [] m K := by
  refine r_aload_n (y := m0_init) dX0_init_300 rfl rfl ?_
  refine g_X0_28 (y := m0_init) rfl dX0_init_301 hee0 ?_
  refine r_iload (y := m0_init) dX0_init_304 rfl ?_
  obtain ⟨hb1, h⟩ := h
  refine r_iald (y := m0_init) (n := nn0) dX0_init_306 (hee0.2 3 (by decide) (by decide)).2 hb1 ?_
  refine r_if_lt (y := m0_init) (tgt := 340) dX0_init_307 (by decide) (fun hc2 => ?_) (fun hc2 => ?_)
  · have h := h.1 hc2
    exact h
  · have h := h.2 hc2
    refine r_aload_n (y := m0_init) dX0_init_310 rfl rfl ?_
    refine r_aload_n (y := m0_init) dX0_init_311 rfl rfl ?_
    refine g_X0_28 (y := m0_init) rfl dX0_init_312 hee0 ?_
    refine r_iload (y := m0_init) dX0_init_315 rfl ?_
    obtain ⟨hb3, h⟩ := h
    refine r_iald (y := m0_init) (n := nn0) dX0_init_317 (hee0.2 3 (by decide) (by decide)).2 hb3 ?_
    refine r_aload_n (y := m0_init) dX0_init_318 rfl rfl ?_
    refine g_X0_46 (y := m0_init) rfl dX0_init_319 hm ?_
    refine r_iload (y := m0_init) dX0_init_322 rfl ?_
    obtain ⟨hb4, h⟩ := h
    refine r_iald (y := m0_init) (n := 80) dX0_init_324 (sa_4 hm) hb4 ?_
    obtain ⟨hb5, h⟩ := h
    refine r_iast (y := m0_init) (n := nn3) dX0_init_325 hee3 hb5 ?_
    refine r_aload_n (y := m0_init) dX0_init_326 rfl rfl ?_
    refine g_X0_37 (y := m0_init) rfl dX0_init_327 hee0 ?_
    refine r_aload_n (y := m0_init) dX0_init_330 rfl rfl ?_
    refine g_X0_28 (y := m0_init) rfl dX0_init_331 hee0 ?_
    refine r_iload (y := m0_init) dX0_init_334 rfl ?_
    obtain ⟨hb6, h⟩ := h
    refine r_iald (y := m0_init) (n := nn0) dX0_init_336 (hee0.2 3 (by decide) (by decide)).2 hb6 ?_
    refine r_iload (y := m0_init) dX0_init_337 rfl ?_
    obtain ⟨hb7, h⟩ := h
    refine r_iast (y := m0_init) (n := nn0) dX0_init_339 (hee0.2 6 (by decide) (by decide)).2 hb7 ?_
    exact h
set_option maxHeartbeats 4000000 in
set_option maxRecDepth 100000 in
theorem w0_init_340 {m : Mm} {K : Option Value ⊕ String → Mm → Prop} (hm : St m) {ee0 nn0 : Nat} {v2 : Int32} {ee3 nn3 : Nat} {v4 : Int32} {v5 : Int32} {v6 : Int32} {v7 : Int32} (hee0 : isExp m ee0 nn0) (hee3 : mS m ee3 = (13, nn3)) (h : V m0_init 104 [some (.ref ee0), some (.ref 1), some (.int v2), some (.ref ee3), some (.int (v4 + (-1))), some (.int v5), some (.int v6), some (.int v7)] [] m K) : V m0_init 340 [some (.ref ee0), some (.ref 1), some (.int v2), some (.ref ee3), some (.int v4), some (.int v5), some (.int v6), some (.int v7)] [] m K := by
  refine r_iinc (y := m0_init) (v := (v4 + (-1))) (L' := [some (.ref ee0), some (.ref 1), some (.int v2), some (.ref ee3), some (.int (v4 + (-1))), some (.int v5), some (.int v6), some (.int v7)]) dX0_init_340 rfl (by rfl) rfl ?_
  refine r_goto (y := m0_init) (tgt := 104) dX0_init_343 (by decide) ?_
  exact h
set_option maxHeartbeats 4000000 in
set_option maxRecDepth 100000 in
theorem w6_addNamesN {m : Mm} {K : Option Value ⊕ String → Mm → Prop} (hm : St m) {a1 : Int32}  (h : ((0 ≤ (0 : Int32) → K (.inl (some (.int a1))) m) ∧ (¬ 0 ≤ (0 : Int32) → ((a1 < 0 → K (.inl (some (.int a1))) m) ∧ (¬ a1 < 0 → False))))) : V m6_addNames 0 [some .null, some (.int a1), none, none, none] [] m K := by
  refine r_iload_n (y := m6_addNames) dX6_addNames_0 rfl rfl ?_
  refine r_istore_n (y := m6_addNames) (L' := [some .null, some (.int a1), some (.int a1), none, none]) dX6_addNames_1 rfl (Nat.le_of_ble_eq_true rfl) rfl ?_
  refine r_aload_nN (y := m6_addNames) dX6_addNames_2 rfl rfl ?_
  refine r_ifnonnullN (y := m6_addNames) dX6_addNames_3 ?_
  refine r_iconst (y := m6_addNames) (v := 0) dX6_addNames_6 (by decide) ?_
  refine r_goto (y := m6_addNames) (tgt := 14) dX6_addNames_7 (by decide) ?_
  refine r_istore_n (y := m6_addNames) (L' := [some .null, some (.int a1), some (.int a1), some (.int 0), none]) dX6_addNames_14 rfl (Nat.le_of_ble_eq_true rfl) rfl ?_
  refine r_iconst (y := m6_addNames) (v := 0) dX6_addNames_15 (by decide) ?_
  refine r_istore (y := m6_addNames) (L' := [some .null, some (.int a1), some (.int a1), some (.int 0), some (.int 0)]) dX6_addNames_16 (Nat.le_of_ble_eq_true rfl) rfl ?_
  refine r_iload (y := m6_addNames) dX6_addNames_18 rfl ?_
  refine r_iload_n (y := m6_addNames) dX6_addNames_20 rfl rfl ?_
  refine r_icmp_ge (y := m6_addNames) (tgt := 86) dX6_addNames_21 (by decide) (fun hc1 => ?_) (fun hc1 => ?_)
  · have h := h.1 hc1
    refine r_iload_n (y := m6_addNames) dX6_addNames_86 rfl rfl ?_
    exact r_iret (y := m6_addNames) dX6_addNames_87 rfl rfl h
  · have h := h.2 hc1
    refine r_iload_n (y := m6_addNames) dX6_addNames_24 rfl rfl ?_
    refine r_if_lt (y := m6_addNames) (tgt := 86) dX6_addNames_25 (by decide) (fun hc2 => ?_) (fun hc2 => ?_)
    · have h := h.1 hc2
      refine r_iload_n (y := m6_addNames) dX6_addNames_86 rfl rfl ?_
      exact r_iret (y := m6_addNames) dX6_addNames_87 rfl rfl h
    · have h := h.2 hc2
      refine r_aload_nN (y := m6_addNames) dX6_addNames_28 rfl rfl ?_
      exact h.elim
