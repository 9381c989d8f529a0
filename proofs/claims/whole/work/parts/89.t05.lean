/-! THE LAW'S CASES: written by gen/law.py -/
theorem IVx.st {Z : Nat} {m : Mm} (h : IVx Z m) : St m := by
  obtain ⟨fs, nds, g, nums, kept, hw, hC, hM⟩ := h
  exact hC.1.1
theorem k12_thrown : CalV m12_thrown 0 := ⟨⟨(r1_law _ (List.mem_of_getElem? (i := 5) rfl)), (r10_law _ (List.mem_of_getElem? (i := 10) rfl)), by decide +kernel⟩, (r10_law _ (List.mem_of_getElem? (i := 8) rfl)), (r10_law _ (List.mem_of_getElem? (i := 9) rfl))⟩
theorem kL12_function : CalV m12_function 2 := ⟨⟨(r1_law _ (List.mem_of_getElem? (i := 5) rfl)), (r10_law _ (List.mem_of_getElem? (i := 2) rfl)), by decide +kernel⟩, (r10_law _ (List.mem_of_getElem? (i := 0) rfl)), (r10_law _ (List.mem_of_getElem? (i := 1) rfl))⟩
theorem kL12_name : CalV m12_name 1 := ⟨⟨(r1_law _ (List.mem_of_getElem? (i := 5) rfl)), (r11_law _ (List.mem_of_getElem? (i := 15) rfl)), by decide +kernel⟩, (r11_law _ (List.mem_of_getElem? (i := 13) rfl)), (r11_law _ (List.mem_of_getElem? (i := 14) rfl))⟩
theorem kL12_data : CalV m12_data 3 := ⟨⟨(r1_law _ (List.mem_of_getElem? (i := 5) rfl)), (r13_law _ (List.mem_of_getElem? (i := 1) rfl)), by decide +kernel⟩, (r12_law _ (List.mem_of_getElem? (i := 23) rfl)), (r13_law _ (List.mem_of_getElem? (i := 0) rfl))⟩
theorem kL12_call : CalV m12_call 3 := ⟨⟨(r1_law _ (List.mem_of_getElem? (i := 5) rfl)), (r14_law _ (List.mem_of_getElem? (i := 3) rfl)), by decide +kernel⟩, (r14_law _ (List.mem_of_getElem? (i := 1) rfl)), (r14_law _ (List.mem_of_getElem? (i := 2) rfl))⟩
theorem kL12_either : CalV m12_either 2 := ⟨⟨(r1_law _ (List.mem_of_getElem? (i := 5) rfl)), (r14_law _ (List.mem_of_getElem? (i := 18) rfl)), by decide +kernel⟩, (r14_law _ (List.mem_of_getElem? (i := 16) rfl)), (r14_law _ (List.mem_of_getElem? (i := 17) rfl))⟩
theorem kL12_same : CalV m12_same 2 := ⟨⟨(r1_law _ (List.mem_of_getElem? (i := 5) rfl)), (r15_law _ (List.mem_of_getElem? (i := 9) rfl)), by decide +kernel⟩, (r15_law _ (List.mem_of_getElem? (i := 7) rfl)), (r15_law _ (List.mem_of_getElem? (i := 8) rfl))⟩
theorem kL12_unlike : CalV m12_unlike 2 := ⟨⟨(r1_law _ (List.mem_of_getElem? (i := 5) rfl)), (r15_law _ (List.mem_of_getElem? (i := 20) rfl)), by decide +kernel⟩, (r15_law _ (List.mem_of_getElem? (i := 18) rfl)), (r15_law _ (List.mem_of_getElem? (i := 19) rfl))⟩
theorem kL12_some : CalV m12_some 1 := ⟨⟨(r1_law _ (List.mem_of_getElem? (i := 5) rfl)), (r16_law _ (List.mem_of_getElem? (i := 7) rfl)), by decide +kernel⟩, (r16_law _ (List.mem_of_getElem? (i := 5) rfl)), (r16_law _ (List.mem_of_getElem? (i := 6) rfl))⟩
theorem kL12_drop : CalV m12_drop 0 := ⟨⟨(r1_law _ (List.mem_of_getElem? (i := 5) rfl)), (r16_law _ (List.mem_of_getElem? (i := 15) rfl)), by decide +kernel⟩, (r16_law _ (List.mem_of_getElem? (i := 13) rfl)), (r16_law _ (List.mem_of_getElem? (i := 14) rfl))⟩
theorem kL11_drop : CalV m11_drop 0 := ⟨⟨(r1_law _ (List.mem_of_getElem? (i := 2) rfl)), (r16_law _ (List.mem_of_getElem? (i := 11) rfl)), by decide +kernel⟩, (r16_law _ (List.mem_of_getElem? (i := 9) rfl)), (r16_law _ (List.mem_of_getElem? (i := 10) rfl))⟩
theorem kL12_rule : CalV m12_rule 4 := ⟨⟨(r1_law _ (List.mem_of_getElem? (i := 5) rfl)), (r18_law _ (List.mem_of_getElem? (i := 8) rfl)), by decide +kernel⟩, (r18_law _ (List.mem_of_getElem? (i := 6) rfl)), (r18_law _ (List.mem_of_getElem? (i := 7) rfl))⟩
theorem kL12_unrule : CalV m12_unrule 1 := ⟨⟨(r1_law _ (List.mem_of_getElem? (i := 5) rfl)), (r19_law _ (List.mem_of_getElem? (i := 13) rfl)), by decide +kernel⟩, (r19_law _ (List.mem_of_getElem? (i := 11) rfl)), (r19_law _ (List.mem_of_getElem? (i := 12) rfl))⟩
theorem kL12_many : CalV m12_many 0 := ⟨⟨(r1_law _ (List.mem_of_getElem? (i := 5) rfl)), (r20_law _ (List.mem_of_getElem? (i := 22) rfl)), by decide +kernel⟩, (r20_law _ (List.mem_of_getElem? (i := 20) rfl)), (r20_law _ (List.mem_of_getElem? (i := 21) rfl))⟩
theorem kL11_many : CalV m11_many 0 := ⟨⟨(r1_law _ (List.mem_of_getElem? (i := 2) rfl)), (r19_law _ (List.mem_of_getElem? (i := 17) rfl)), by decide +kernel⟩, (r19_law _ (List.mem_of_getElem? (i := 15) rfl)), (r19_law _ (List.mem_of_getElem? (i := 16) rfl))⟩
theorem kL12_goal : CalV m12_goal 1 := ⟨⟨(r1_law _ (List.mem_of_getElem? (i := 5) rfl)), (r22_law _ (List.mem_of_getElem? (i := 9) rfl)), by decide +kernel⟩, (r22_law _ (List.mem_of_getElem? (i := 7) rfl)), (r22_law _ (List.mem_of_getElem? (i := 8) rfl))⟩
theorem kL12_search : CalV m12_search 2 := ⟨⟨(r1_law _ (List.mem_of_getElem? (i := 5) rfl)), (r31_law _ (List.mem_of_getElem? (i := 3) rfl)), by decide +kernel⟩, (r31_law _ (List.mem_of_getElem? (i := 1) rfl)), (r31_law _ (List.mem_of_getElem? (i := 2) rfl))⟩
theorem kL12_count : CalV m12_count 1 := ⟨⟨(r1_law _ (List.mem_of_getElem? (i := 5) rfl)), (r37_law _ (List.mem_of_getElem? (i := 7) rfl)), by decide +kernel⟩, (r37_law _ (List.mem_of_getElem? (i := 5) rfl)), (r37_law _ (List.mem_of_getElem? (i := 6) rfl))⟩
theorem kL12_part : CalV m12_part 2 := ⟨⟨(r1_law _ (List.mem_of_getElem? (i := 5) rfl)), (r38_law _ (List.mem_of_getElem? (i := 1) rfl)), by decide +kernel⟩, (r37_law _ (List.mem_of_getElem? (i := 23) rfl)), (r38_law _ (List.mem_of_getElem? (i := 0) rfl))⟩
theorem kL12_bound : CalV m12_bound 3 := ⟨⟨(r1_law _ (List.mem_of_getElem? (i := 5) rfl)), (r38_law _ (List.mem_of_getElem? (i := 20) rfl)), by decide +kernel⟩, (r38_law _ (List.mem_of_getElem? (i := 18) rfl)), (r38_law _ (List.mem_of_getElem? (i := 19) rfl))⟩
theorem kL12_steps : CalV m12_steps 1 := ⟨⟨(r1_law _ (List.mem_of_getElem? (i := 5) rfl)), (r39_law _ (List.mem_of_getElem? (i := 7) rfl)), by decide +kernel⟩, (r39_law _ (List.mem_of_getElem? (i := 5) rfl)), (r39_law _ (List.mem_of_getElem? (i := 6) rfl))⟩
theorem kL12_fate : CalV m12_fate 2 := ⟨⟨(r1_law _ (List.mem_of_getElem? (i := 5) rfl)), (r39_law _ (List.mem_of_getElem? (i := 18) rfl)), by decide +kernel⟩, (r39_law _ (List.mem_of_getElem? (i := 16) rfl)), (r39_law _ (List.mem_of_getElem? (i := 17) rfl))⟩
theorem kL12_within : CalV m12_within 1 := ⟨⟨(r1_law _ (List.mem_of_getElem? (i := 5) rfl)), (r40_law _ (List.mem_of_getElem? (i := 11) rfl)), by decide +kernel⟩, (r40_law _ (List.mem_of_getElem? (i := 9) rfl)), (r40_law _ (List.mem_of_getElem? (i := 10) rfl))⟩
theorem lc_function {D : va_G} {dA : Nat → ClassId} {cL : ClassId} {p : Program} {l : Launch} {e : Env} {s : State} {mid : MethodId} {b L : Nat} {xs : Nat → Int32} {below : List Frame} {meth : Method} {c : Code} {Q : State → Prop} {H : Heap} {locs : List Loc} {ls : Array Slot} {i Z Z2 x0 m0 q : Nat} {m : Mm} {v : Int64} {ad : Nat → Nat} (X : LC D dA cL p l s mid b L xs meth c) (hL : L ≤ 2560) (hi : i + 4 < L) (hI : IVx Z m) (hZ : Z + 120000 ≤ Z2) (hZ2 : Z2 < 2147480000) (hLx : Lx D dA (fun z => s.heap.size ≤ z) ad m q cL v s H locs) (h0 : ad 0 = x0) (h668 : ad 668 = m0) (hl : lv_has ls 7 [(0, .ref b), (1, .ref x0), (2, .ref m0), (3, .ref q), (4, .int (nn i))]) (hcc : mC m + 27 ≤ 601024) (hzz : mZ m + 285 ≤ 7293034) (kk : LK D dA cL p l e s mid b i below meth c Q x0 m0 q Z2 (mC m + 26) (mZ m + 284)) : W p l e room_1 s mid #[Value.ref b] below meth c H locs (mC m + 1) (mZ m + 1) Q (F0 mid 132 ls []) := by
  have hx := X.1
  have hb := X.2.1
  have hSt : St m := hI.st
  obtain ⟨r, hr, o, m1, ⟨rfl, c1, z1, s1, o2, m2, ⟨v2, rfl, hv, h12, c2, z2, s2, hI2⟩, ct2⟩, ct1⟩ := (LStp.fun hI (xs (i + 1)) (decide (xs (i + 2) ≠ 0))).up (show Z ≤ Z2 by omega)
  have h714 : 714 ≤ mN m := hSt.2.2
  have h1714 : 714 ≤ mN m1 := s1.2.2
  refine lv_aload_n hx hb dL_law_132 rfl (lv_at hl 1 rfl) ?_
  refine l_elem (j := 1) (k0 := 0) (k4 := 4) X hLx.2.2.2 hl rfl rfl hL (by omega) dL_law_133 dL_law_134 dL_law_136 (by decide) dL_law_137 dL_law_138 ?_
  refine l_elem (j := 2) (k0 := 0) (k4 := 4) X hLx.2.2.2 hl rfl rfl hL (by omega) dL_law_139 dL_law_140 dL_law_142 (by decide) dL_law_143 dL_law_144 ?_
  refine l_bool X dL_law_145 dL_law_148 dL_law_149 dL_law_152 ?_
  refine lv_aload_n hx hb dL_law_153 rfl (lv_at hl 3 rfl) ?_
  refine l_help (y := h_function) (y2 := m11_function) (js := [xs (i + 1), bz (decide (xs (i + 2) ≠ 0))]) (rest := []) X (by decide +kernel) rfl (Nat.le_of_ble_eq_true rfl) h_function_B h_function_L h_function_X hr ct1 dL_law_154 ⟨(r9_law _ (List.mem_of_getElem? (i := 6) rfl)), (r9_law _ (List.mem_of_getElem? (i := 7) rfl)), (r9_law _ (List.mem_of_getElem? (i := 9) rfl)), (r9_law _ (List.mem_of_getElem? (i := 8) rfl))⟩ ⟨by decide +kernel, by decide +kernel, rfl⟩ ⟨by decide, by decide⟩ hLx hSt h0 hl.1 rfl (Nat.le_of_ble_eq_true rfl) (by omega) (by omega) (fun ad1 H1 locs1 hLx1 hext => ?_)
  have h0a : ad1 0 = x0 := (hext 0 (by omega)).trans h0
  have h6a : ad1 668 = m0 := (hext 668 (by omega)).trans h668
  refine lv_istore hx hb dL_law_157 hl (by decide) rfl (fun ls hl => ?_)
  have hl : lv_has ls 7 [(5, .int (nn r.1)), (0, .ref b), (1, .ref x0), (2, .ref m0), (3, .ref q), (4, .int (nn i))] := hl
  refine lv_aload_n hx hb dL_law_159 rfl (lv_at hl 3 rfl) ?_
  refine l_elem (j := 1) (k0 := 1) (k4 := 5) X hLx1.2.2.2 hl rfl rfl hL (by omega) dL_law_160 dL_law_161 dL_law_163 (by decide) dL_law_164 dL_law_165 ?_
  refine l_elem (j := 2) (k0 := 1) (k4 := 5) X hLx1.2.2.2 hl rfl rfl hL (by omega) dL_law_166 dL_law_167 dL_law_169 (by decide) dL_law_170 dL_law_171 ?_
  refine l_bool X dL_law_172 dL_law_175 dL_law_176 dL_law_179 ?_
  refine l_callV (y2 := m12_function) (b0 := 668) (ci := 12) (js := [xs (i + 1), bz (decide (xs (i + 2) ≠ 0))]) (rest := []) X dL_law_180 kL12_function (r9_law _ (List.mem_of_getElem? (i := 23) rfl)) ⟨by decide, by decide⟩ rfl (by decide) rfl (by decide) hLx1 s1 h6a hl.1 rfl (Nat.le_of_ble_eq_true rfl) ct2 (by omega) (by omega) (fun ad2 H2 locs2 hLx2 hext2 => ?_)
  exact l_cmp (pc := 183) (off := 1161) X hv (Nat.lt_of_le_of_lt hr (by decide)) h12 hLx2 s2 ((hext2 0 (by omega)).trans h0a) ((hext2 668 (by omega)).trans h6a) hl hI2 (by omega) (by omega) (by omega) (by omega) dL_law_183 dL_law_185 dL_law_186 dL_law_189 dL_law_191 dL_law_196 dL_law_198 dL_law_201 dL_law_202 dL_law_203 dL_law_204 dL_law_206 dL_law_207 dL_law_208 dL_law_213 rfl k12_thrown (r10_law _ (List.mem_of_getElem? (i := 7) rfl)) kk
theorem lc_name {D : va_G} {dA : Nat → ClassId} {cL : ClassId} {p : Program} {l : Launch} {e : Env} {s : State} {mid : MethodId} {b L : Nat} {xs : Nat → Int32} {below : List Frame} {meth : Method} {c : Code} {Q : State → Prop} {H : Heap} {locs : List Loc} {ls : Array Slot} {i Z Z2 x0 m0 q : Nat} {m : Mm} {v : Int64} {ad : Nat → Nat} (X : LC D dA cL p l s mid b L xs meth c) (hL : L ≤ 2560) (hi : i + 4 < L) (hI : IVx Z m) (hZ : Z + 120000 ≤ Z2) (hZ2 : Z2 < 2147480000) (hLx : Lx D dA (fun z => s.heap.size ≤ z) ad m q cL v s H locs) (h0 : ad 0 = x0) (h668 : ad 668 = m0) (hl : lv_has ls 7 [(0, .ref b), (1, .ref x0), (2, .ref m0), (3, .ref q), (4, .int (nn i))]) (hcc : mC m + 27 ≤ 601024) (hzz : mZ m + 285 ≤ 7293034) (kk : LK D dA cL p l e s mid b i below meth c Q x0 m0 q Z2 (mC m + 26) (mZ m + 284)) : W p l e room_1 s mid #[Value.ref b] below meth c H locs (mC m + 1) (mZ m + 1) Q (F0 mid 216 ls []) := by
  have hx := X.1
  have hb := X.2.1
  have hSt : St m := hI.st
  obtain ⟨r, hr, o, m1, ⟨rfl, c1, z1, s1, o2, m2, ⟨v2, rfl, hv, h12, c2, z2, s2, hI2⟩, ct2⟩, ct1⟩ := (LStp.name hI (xs (i + 1))).up (show Z ≤ Z2 by omega)
  have h714 : 714 ≤ mN m := hSt.2.2
  have h1714 : 714 ≤ mN m1 := s1.2.2
  refine lv_aload_n hx hb dL_law_216 rfl (lv_at hl 1 rfl) ?_
  refine l_elem (j := 1) (k0 := 0) (k4 := 4) X hLx.2.2.2 hl rfl rfl hL (by omega) dL_law_217 dL_law_218 dL_law_220 (by decide) dL_law_221 dL_law_222 ?_
  refine lv_aload_n hx hb dL_law_223 rfl (lv_at hl 3 rfl) ?_
  refine l_help (y := h_name) (y2 := m11_name) (js := [xs (i + 1)]) (rest := []) X (by decide +kernel) rfl (Nat.le_of_ble_eq_true rfl) h_name_B h_name_L h_name_X hr ct1 dL_law_224 ⟨(r10_law _ (List.mem_of_getElem? (i := 11) rfl)), (r10_law _ (List.mem_of_getElem? (i := 12) rfl)), (r10_law _ (List.mem_of_getElem? (i := 13) rfl)), (r9_law _ (List.mem_of_getElem? (i := 8) rfl))⟩ ⟨by decide +kernel, by decide +kernel, rfl⟩ ⟨by decide, by decide⟩ hLx hSt h0 hl.1 rfl (Nat.le_of_ble_eq_true rfl) (by omega) (by omega) (fun ad1 H1 locs1 hLx1 hext => ?_)
  have h0a : ad1 0 = x0 := (hext 0 (by omega)).trans h0
  have h6a : ad1 668 = m0 := (hext 668 (by omega)).trans h668
  refine lv_istore hx hb dL_law_227 hl (by decide) rfl (fun ls hl => ?_)
  have hl : lv_has ls 7 [(5, .int (nn r.1)), (0, .ref b), (1, .ref x0), (2, .ref m0), (3, .ref q), (4, .int (nn i))] := hl
  refine lv_aload_n hx hb dL_law_229 rfl (lv_at hl 3 rfl) ?_
  refine l_elem (j := 1) (k0 := 1) (k4 := 5) X hLx1.2.2.2 hl rfl rfl hL (by omega) dL_law_230 dL_law_231 dL_law_233 (by decide) dL_law_234 dL_law_235 ?_
  refine l_callV (y2 := m12_name) (b0 := 668) (ci := 12) (js := [xs (i + 1)]) (rest := []) X dL_law_236 kL12_name (r11_law _ (List.mem_of_getElem? (i := 12) rfl)) ⟨by decide, by decide⟩ rfl (by decide) rfl (by decide) hLx1 s1 h6a hl.1 rfl (Nat.le_of_ble_eq_true rfl) ct2 (by omega) (by omega) (fun ad2 H2 locs2 hLx2 hext2 => ?_)
  exact l_cmp (pc := 239) (off := 1105) X hv (Nat.lt_of_le_of_lt hr (by decide)) h12 hLx2 s2 ((hext2 0 (by omega)).trans h0a) ((hext2 668 (by omega)).trans h6a) hl hI2 (by omega) (by omega) (by omega) (by omega) dL_law_239 dL_law_241 dL_law_242 dL_law_245 dL_law_247 dL_law_252 dL_law_254 dL_law_257 dL_law_258 dL_law_259 dL_law_260 dL_law_262 dL_law_263 dL_law_264 dL_law_269 rfl k12_thrown (r10_law _ (List.mem_of_getElem? (i := 7) rfl)) kk
theorem lc_data {D : va_G} {dA : Nat → ClassId} {cL : ClassId} {p : Program} {l : Launch} {e : Env} {s : State} {mid : MethodId} {b L : Nat} {xs : Nat → Int32} {below : List Frame} {meth : Method} {c : Code} {Q : State → Prop} {H : Heap} {locs : List Loc} {ls : Array Slot} {i Z Z2 x0 m0 q : Nat} {m : Mm} {v : Int64} {ad : Nat → Nat} (X : LC D dA cL p l s mid b L xs meth c) (hL : L ≤ 2560) (hi : i + 4 < L) (hI : IVx Z m) (hZ : Z + 120000 ≤ Z2) (hZ2 : Z2 < 2147480000) (hLx : Lx D dA (fun z => s.heap.size ≤ z) ad m q cL v s H locs) (h0 : ad 0 = x0) (h668 : ad 668 = m0) (hl : lv_has ls 7 [(0, .ref b), (1, .ref x0), (2, .ref m0), (3, .ref q), (4, .int (nn i))]) (hcc : mC m + 27 ≤ 601024) (hzz : mZ m + 285 ≤ 7293034) (kk : LK D dA cL p l e s mid b i below meth c Q x0 m0 q Z2 (mC m + 26) (mZ m + 284)) : W p l e room_1 s mid #[Value.ref b] below meth c H locs (mC m + 1) (mZ m + 1) Q (F0 mid 272 ls []) := by
  have hx := X.1
  have hb := X.2.1
  have hSt : St m := hI.st
  obtain ⟨r, hr, o, m1, ⟨rfl, c1, z1, s1, o2, m2, ⟨v2, rfl, hv, h12, c2, z2, s2, hI2⟩, ct2⟩, ct1⟩ := (LStp.data hI (xs (i + 1)) (xs (i + 2)) (xs (i + 3))).up (show Z ≤ Z2 by omega)
  have h714 : 714 ≤ mN m := hSt.2.2
  have h1714 : 714 ≤ mN m1 := s1.2.2
  refine lv_aload_n hx hb dL_law_272 rfl (lv_at hl 1 rfl) ?_
  refine l_elem (j := 1) (k0 := 0) (k4 := 4) X hLx.2.2.2 hl rfl rfl hL (by omega) dL_law_273 dL_law_274 dL_law_276 (by decide) dL_law_277 dL_law_278 ?_
  refine l_elem (j := 2) (k0 := 0) (k4 := 4) X hLx.2.2.2 hl rfl rfl hL (by omega) dL_law_279 dL_law_280 dL_law_282 (by decide) dL_law_283 dL_law_284 ?_
  refine l_elem (j := 3) (k0 := 0) (k4 := 4) X hLx.2.2.2 hl rfl rfl hL (by omega) dL_law_285 dL_law_286 dL_law_288 (by decide) dL_law_289 dL_law_290 ?_
  refine lv_aload_n hx hb dL_law_291 rfl (lv_at hl 3 rfl) ?_
  refine l_help (y := h_data) (y2 := m11_data) (js := [xs (i + 1), xs (i + 2), xs (i + 3)]) (rest := []) X (by decide +kernel) rfl (Nat.le_of_ble_eq_true rfl) h_data_B h_data_L h_data_X hr ct1 dL_law_292 ⟨(r12_law _ (List.mem_of_getElem? (i := 5) rfl)), (r12_law _ (List.mem_of_getElem? (i := 6) rfl)), (r12_law _ (List.mem_of_getElem? (i := 7) rfl)), (r9_law _ (List.mem_of_getElem? (i := 8) rfl))⟩ ⟨by decide +kernel, by decide +kernel, rfl⟩ ⟨by decide, by decide⟩ hLx hSt h0 hl.1 rfl (Nat.le_of_ble_eq_true rfl) (by omega) (by omega) (fun ad1 H1 locs1 hLx1 hext => ?_)
  have h0a : ad1 0 = x0 := (hext 0 (by omega)).trans h0
  have h6a : ad1 668 = m0 := (hext 668 (by omega)).trans h668
  refine lv_istore hx hb dL_law_295 hl (by decide) rfl (fun ls hl => ?_)
  have hl : lv_has ls 7 [(5, .int (nn r.1)), (0, .ref b), (1, .ref x0), (2, .ref m0), (3, .ref q), (4, .int (nn i))] := hl
  refine lv_aload_n hx hb dL_law_297 rfl (lv_at hl 3 rfl) ?_
  refine l_elem (j := 1) (k0 := 1) (k4 := 5) X hLx1.2.2.2 hl rfl rfl hL (by omega) dL_law_298 dL_law_299 dL_law_301 (by decide) dL_law_302 dL_law_303 ?_
  refine l_elem (j := 2) (k0 := 1) (k4 := 5) X hLx1.2.2.2 hl rfl rfl hL (by omega) dL_law_304 dL_law_305 dL_law_307 (by decide) dL_law_308 dL_law_309 ?_
  refine l_elem (j := 3) (k0 := 1) (k4 := 5) X hLx1.2.2.2 hl rfl rfl hL (by omega) dL_law_310 dL_law_311 dL_law_313 (by decide) dL_law_314 dL_law_315 ?_
  refine l_callV (y2 := m12_data) (b0 := 668) (ci := 12) (js := [xs (i + 1), xs (i + 2), xs (i + 3)]) (rest := []) X dL_law_316 kL12_data (r12_law _ (List.mem_of_getElem? (i := 22) rfl)) ⟨by decide, by decide⟩ rfl (by decide) rfl (by decide) hLx1 s1 h6a hl.1 rfl (Nat.le_of_ble_eq_true rfl) ct2 (by omega) (by omega) (fun ad2 H2 locs2 hLx2 hext2 => ?_)
  exact l_cmp (pc := 319) (off := 1025) X hv (Nat.lt_of_le_of_lt hr (by decide)) h12 hLx2 s2 ((hext2 0 (by omega)).trans h0a) ((hext2 668 (by omega)).trans h6a) hl hI2 (by omega) (by omega) (by omega) (by omega) dL_law_319 dL_law_321 dL_law_322 dL_law_325 dL_law_327 dL_law_332 dL_law_334 dL_law_337 dL_law_338 dL_law_339 dL_law_340 dL_law_342 dL_law_343 dL_law_344 dL_law_349 rfl k12_thrown (r10_law _ (List.mem_of_getElem? (i := 7) rfl)) kk
theorem lc_call {D : va_G} {dA : Nat → ClassId} {cL : ClassId} {p : Program} {l : Launch} {e : Env} {s : State} {mid : MethodId} {b L : Nat} {xs : Nat → Int32} {below : List Frame} {meth : Method} {c : Code} {Q : State → Prop} {H : Heap} {locs : List Loc} {ls : Array Slot} {i Z Z2 x0 m0 q : Nat} {m : Mm} {v : Int64} {ad : Nat → Nat} (X : LC D dA cL p l s mid b L xs meth c) (hL : L ≤ 2560) (hi : i + 4 < L) (hI : IVx Z m) (hZ : Z + 120000 ≤ Z2) (hZ2 : Z2 < 2147480000) (hLx : Lx D dA (fun z => s.heap.size ≤ z) ad m q cL v s H locs) (h0 : ad 0 = x0) (h668 : ad 668 = m0) (hl : lv_has ls 7 [(0, .ref b), (1, .ref x0), (2, .ref m0), (3, .ref q), (4, .int (nn i))]) (hcc : mC m + 27 ≤ 601024) (hzz : mZ m + 285 ≤ 7293034) (kk : LK D dA cL p l e s mid b i below meth c Q x0 m0 q Z2 (mC m + 26) (mZ m + 284)) : W p l e room_1 s mid #[Value.ref b] below meth c H locs (mC m + 1) (mZ m + 1) Q (F0 mid 352 ls []) := by
  have hx := X.1
  have hb := X.2.1
  have hSt : St m := hI.st
  obtain ⟨r, hr, o, m1, ⟨rfl, c1, z1, s1, o2, m2, ⟨v2, rfl, hv, h12, c2, z2, s2, hI2⟩, ct2⟩, ct1⟩ := (LStp.call hI (xs (i + 1)) (xs (i + 2)) (xs (i + 3))).up (show Z ≤ Z2 by omega)
  have h714 : 714 ≤ mN m := hSt.2.2
  have h1714 : 714 ≤ mN m1 := s1.2.2
  refine lv_aload_n hx hb dL_law_352 rfl (lv_at hl 1 rfl) ?_
  refine l_elem (j := 1) (k0 := 0) (k4 := 4) X hLx.2.2.2 hl rfl rfl hL (by omega) dL_law_353 dL_law_354 dL_law_356 (by decide) dL_law_357 dL_law_358 ?_
  refine l_elem (j := 2) (k0 := 0) (k4 := 4) X hLx.2.2.2 hl rfl rfl hL (by omega) dL_law_359 dL_law_360 dL_law_362 (by decide) dL_law_363 dL_law_364 ?_
  refine l_elem (j := 3) (k0 := 0) (k4 := 4) X hLx.2.2.2 hl rfl rfl hL (by omega) dL_law_365 dL_law_366 dL_law_368 (by decide) dL_law_369 dL_law_370 ?_
  refine lv_aload_n hx hb dL_law_371 rfl (lv_at hl 3 rfl) ?_
  refine l_help (y := h_call) (y2 := m11_call) (js := [xs (i + 1), xs (i + 2), xs (i + 3)]) (rest := []) X (by decide +kernel) rfl (Nat.le_of_ble_eq_true rfl) h_call_B h_call_L h_call_X hr ct1 dL_law_372 ⟨(r13_law _ (List.mem_of_getElem? (i := 10) rfl)), (r13_law _ (List.mem_of_getElem? (i := 11) rfl)), (r13_law _ (List.mem_of_getElem? (i := 12) rfl)), (r9_law _ (List.mem_of_getElem? (i := 8) rfl))⟩ ⟨by decide +kernel, by decide +kernel, rfl⟩ ⟨by decide, by decide⟩ hLx hSt h0 hl.1 rfl (Nat.le_of_ble_eq_true rfl) (by omega) (by omega) (fun ad1 H1 locs1 hLx1 hext => ?_)
  have h0a : ad1 0 = x0 := (hext 0 (by omega)).trans h0
  have h6a : ad1 668 = m0 := (hext 668 (by omega)).trans h668
  refine lv_istore hx hb dL_law_375 hl (by decide) rfl (fun ls hl => ?_)
  have hl : lv_has ls 7 [(5, .int (nn r.1)), (0, .ref b), (1, .ref x0), (2, .ref m0), (3, .ref q), (4, .int (nn i))] := hl
  refine lv_aload_n hx hb dL_law_377 rfl (lv_at hl 3 rfl) ?_
  refine l_elem (j := 1) (k0 := 1) (k4 := 5) X hLx1.2.2.2 hl rfl rfl hL (by omega) dL_law_378 dL_law_379 dL_law_381 (by decide) dL_law_382 dL_law_383 ?_
  refine l_elem (j := 2) (k0 := 1) (k4 := 5) X hLx1.2.2.2 hl rfl rfl hL (by omega) dL_law_384 dL_law_385 dL_law_387 (by decide) dL_law_388 dL_law_389 ?_
  refine l_elem (j := 3) (k0 := 1) (k4 := 5) X hLx1.2.2.2 hl rfl rfl hL (by omega) dL_law_390 dL_law_391 dL_law_393 (by decide) dL_law_394 dL_law_395 ?_
  refine l_callV (y2 := m12_call) (b0 := 668) (ci := 12) (js := [xs (i + 1), xs (i + 2), xs (i + 3)]) (rest := []) X dL_law_396 kL12_call (r14_law _ (List.mem_of_getElem? (i := 0) rfl)) ⟨by decide, by decide⟩ rfl (by decide) rfl (by decide) hLx1 s1 h6a hl.1 rfl (Nat.le_of_ble_eq_true rfl) ct2 (by omega) (by omega) (fun ad2 H2 locs2 hLx2 hext2 => ?_)
  exact l_cmp (pc := 399) (off := 945) X hv (Nat.lt_of_le_of_lt hr (by decide)) h12 hLx2 s2 ((hext2 0 (by omega)).trans h0a) ((hext2 668 (by omega)).trans h6a) hl hI2 (by omega) (by omega) (by omega) (by omega) dL_law_399 dL_law_401 dL_law_402 dL_law_405 dL_law_407 dL_law_412 dL_law_414 dL_law_417 dL_law_418 dL_law_419 dL_law_420 dL_law_422 dL_law_423 dL_law_424 dL_law_429 rfl k12_thrown (r10_law _ (List.mem_of_getElem? (i := 7) rfl)) kk
theorem lc_either {D : va_G} {dA : Nat → ClassId} {cL : ClassId} {p : Program} {l : Launch} {e : Env} {s : State} {mid : MethodId} {b L : Nat} {xs : Nat → Int32} {below : List Frame} {meth : Method} {c : Code} {Q : State → Prop} {H : Heap} {locs : List Loc} {ls : Array Slot} {i Z Z2 x0 m0 q : Nat} {m : Mm} {v : Int64} {ad : Nat → Nat} (X : LC D dA cL p l s mid b L xs meth c) (hL : L ≤ 2560) (hi : i + 4 < L) (hI : IVx Z m) (hZ : Z + 120000 ≤ Z2) (hZ2 : Z2 < 2147480000) (hLx : Lx D dA (fun z => s.heap.size ≤ z) ad m q cL v s H locs) (h0 : ad 0 = x0) (h668 : ad 668 = m0) (hl : lv_has ls 7 [(0, .ref b), (1, .ref x0), (2, .ref m0), (3, .ref q), (4, .int (nn i))]) (hcc : mC m + 27 ≤ 601024) (hzz : mZ m + 285 ≤ 7293034) (kk : LK D dA cL p l e s mid b i below meth c Q x0 m0 q Z2 (mC m + 26) (mZ m + 284)) : W p l e room_1 s mid #[Value.ref b] below meth c H locs (mC m + 1) (mZ m + 1) Q (F0 mid 432 ls []) := by
  have hx := X.1
  have hb := X.2.1
  have hSt : St m := hI.st
  obtain ⟨r, hr, o, m1, ⟨rfl, c1, z1, s1, o2, m2, ⟨v2, rfl, hv, h12, c2, z2, s2, hI2⟩, ct2⟩, ct1⟩ := (LStp.either hI (xs (i + 1)) (xs (i + 2))).up (show Z ≤ Z2 by omega)
  have h714 : 714 ≤ mN m := hSt.2.2
  have h1714 : 714 ≤ mN m1 := s1.2.2
  refine lv_aload_n hx hb dL_law_432 rfl (lv_at hl 1 rfl) ?_
  refine l_elem (j := 1) (k0 := 0) (k4 := 4) X hLx.2.2.2 hl rfl rfl hL (by omega) dL_law_433 dL_law_434 dL_law_436 (by decide) dL_law_437 dL_law_438 ?_
  refine l_elem (j := 2) (k0 := 0) (k4 := 4) X hLx.2.2.2 hl rfl rfl hL (by omega) dL_law_439 dL_law_440 dL_law_442 (by decide) dL_law_443 dL_law_444 ?_
  refine lv_aload_n hx hb dL_law_445 rfl (lv_at hl 3 rfl) ?_
  refine l_help (y := h_either) (y2 := m11_either) (js := [xs (i + 1), xs (i + 2)]) (rest := []) X (by decide +kernel) rfl (Nat.le_of_ble_eq_true rfl) h_either_B h_either_L h_either_X hr ct1 dL_law_446 ⟨(r14_law _ (List.mem_of_getElem? (i := 8) rfl)), (r14_law _ (List.mem_of_getElem? (i := 9) rfl)), (r14_law _ (List.mem_of_getElem? (i := 10) rfl)), (r9_law _ (List.mem_of_getElem? (i := 8) rfl))⟩ ⟨by decide +kernel, by decide +kernel, rfl⟩ ⟨by decide, by decide⟩ hLx hSt h0 hl.1 rfl (Nat.le_of_ble_eq_true rfl) (by omega) (by omega) (fun ad1 H1 locs1 hLx1 hext => ?_)
  have h0a : ad1 0 = x0 := (hext 0 (by omega)).trans h0
  have h6a : ad1 668 = m0 := (hext 668 (by omega)).trans h668
  refine lv_istore hx hb dL_law_449 hl (by decide) rfl (fun ls hl => ?_)
  have hl : lv_has ls 7 [(5, .int (nn r.1)), (0, .ref b), (1, .ref x0), (2, .ref m0), (3, .ref q), (4, .int (nn i))] := hl
  refine lv_aload_n hx hb dL_law_451 rfl (lv_at hl 3 rfl) ?_
  refine l_elem (j := 1) (k0 := 1) (k4 := 5) X hLx1.2.2.2 hl rfl rfl hL (by omega) dL_law_452 dL_law_453 dL_law_455 (by decide) dL_law_456 dL_law_457 ?_
  refine l_elem (j := 2) (k0 := 1) (k4 := 5) X hLx1.2.2.2 hl rfl rfl hL (by omega) dL_law_458 dL_law_459 dL_law_461 (by decide) dL_law_462 dL_law_463 ?_
  refine l_callV (y2 := m12_either) (b0 := 668) (ci := 12) (js := [xs (i + 1), xs (i + 2)]) (rest := []) X dL_law_464 kL12_either (r14_law _ (List.mem_of_getElem? (i := 15) rfl)) ⟨by decide, by decide⟩ rfl (by decide) rfl (by decide) hLx1 s1 h6a hl.1 rfl (Nat.le_of_ble_eq_true rfl) ct2 (by omega) (by omega) (fun ad2 H2 locs2 hLx2 hext2 => ?_)
  exact l_cmp (pc := 467) (off := 877) X hv (Nat.lt_of_le_of_lt hr (by decide)) h12 hLx2 s2 ((hext2 0 (by omega)).trans h0a) ((hext2 668 (by omega)).trans h6a) hl hI2 (by omega) (by omega) (by omega) (by omega) dL_law_467 dL_law_469 dL_law_470 dL_law_473 dL_law_475 dL_law_480 dL_law_482 dL_law_485 dL_law_486 dL_law_487 dL_law_488 dL_law_490 dL_law_491 dL_law_492 dL_law_497 rfl k12_thrown (r10_law _ (List.mem_of_getElem? (i := 7) rfl)) kk
theorem lc_same {D : va_G} {dA : Nat → ClassId} {cL : ClassId} {p : Program} {l : Launch} {e : Env} {s : State} {mid : MethodId} {b L : Nat} {xs : Nat → Int32} {below : List Frame} {meth : Method} {c : Code} {Q : State → Prop} {H : Heap} {locs : List Loc} {ls : Array Slot} {i Z Z2 x0 m0 q : Nat} {m : Mm} {v : Int64} {ad : Nat → Nat} (X : LC D dA cL p l s mid b L xs meth c) (hL : L ≤ 2560) (hi : i + 4 < L) (hI : IVx Z m) (hZ : Z + 120000 ≤ Z2) (hZ2 : Z2 < 2147480000) (hLx : Lx D dA (fun z => s.heap.size ≤ z) ad m q cL v s H locs) (h0 : ad 0 = x0) (h668 : ad 668 = m0) (hl : lv_has ls 7 [(0, .ref b), (1, .ref x0), (2, .ref m0), (3, .ref q), (4, .int (nn i))]) (hcc : mC m + 27 ≤ 601024) (hzz : mZ m + 285 ≤ 7293034) (kk : LK D dA cL p l e s mid b i below meth c Q x0 m0 q Z2 (mC m + 26) (mZ m + 284)) : W p l e room_1 s mid #[Value.ref b] below meth c H locs (mC m + 1) (mZ m + 1) Q (F0 mid 500 ls []) := by
  have hx := X.1
  have hb := X.2.1
  have hSt : St m := hI.st
  obtain ⟨r, hr, o, m1, ⟨rfl, c1, z1, s1, o2, m2, ⟨v2, rfl, hv, h12, c2, z2, s2, hI2⟩, ct2⟩, ct1⟩ := (LStp.same hI (xs (i + 1)) (xs (i + 2))).up (show Z ≤ Z2 by omega)
  have h714 : 714 ≤ mN m := hSt.2.2
  have h1714 : 714 ≤ mN m1 := s1.2.2
  refine lv_aload_n hx hb dL_law_500 rfl (lv_at hl 1 rfl) ?_
  refine l_elem (j := 1) (k0 := 0) (k4 := 4) X hLx.2.2.2 hl rfl rfl hL (by omega) dL_law_501 dL_law_502 dL_law_504 (by decide) dL_law_505 dL_law_506 ?_
  refine l_elem (j := 2) (k0 := 0) (k4 := 4) X hLx.2.2.2 hl rfl rfl hL (by omega) dL_law_507 dL_law_508 dL_law_510 (by decide) dL_law_511 dL_law_512 ?_
  refine lv_aload_n hx hb dL_law_513 rfl (lv_at hl 3 rfl) ?_
  refine l_help (y := h_same) (y2 := m11_same) (js := [xs (i + 1), xs (i + 2)]) (rest := []) X (by decide +kernel) rfl (Nat.le_of_ble_eq_true rfl) h_same_B h_same_L h_same_X hr ct1 dL_law_514 ⟨(r14_law _ (List.mem_of_getElem? (i := 23) rfl)), (r15_law _ (List.mem_of_getElem? (i := 0) rfl)), (r15_law _ (List.mem_of_getElem? (i := 1) rfl)), (r9_law _ (List.mem_of_getElem? (i := 8) rfl))⟩ ⟨by decide +kernel, by decide +kernel, rfl⟩ ⟨by decide, by decide⟩ hLx hSt h0 hl.1 rfl (Nat.le_of_ble_eq_true rfl) (by omega) (by omega) (fun ad1 H1 locs1 hLx1 hext => ?_)
  have h0a : ad1 0 = x0 := (hext 0 (by omega)).trans h0
  have h6a : ad1 668 = m0 := (hext 668 (by omega)).trans h668
  refine lv_istore hx hb dL_law_517 hl (by decide) rfl (fun ls hl => ?_)
  have hl : lv_has ls 7 [(5, .int (nn r.1)), (0, .ref b), (1, .ref x0), (2, .ref m0), (3, .ref q), (4, .int (nn i))] := hl
  refine lv_aload_n hx hb dL_law_519 rfl (lv_at hl 3 rfl) ?_
  refine l_elem (j := 1) (k0 := 1) (k4 := 5) X hLx1.2.2.2 hl rfl rfl hL (by omega) dL_law_520 dL_law_521 dL_law_523 (by decide) dL_law_524 dL_law_525 ?_
  refine l_elem (j := 2) (k0 := 1) (k4 := 5) X hLx1.2.2.2 hl rfl rfl hL (by omega) dL_law_526 dL_law_527 dL_law_529 (by decide) dL_law_530 dL_law_531 ?_
  refine l_callV (y2 := m12_same) (b0 := 668) (ci := 12) (js := [xs (i + 1), xs (i + 2)]) (rest := []) X dL_law_532 kL12_same (r15_law _ (List.mem_of_getElem? (i := 6) rfl)) ⟨by decide, by decide⟩ rfl (by decide) rfl (by decide) hLx1 s1 h6a hl.1 rfl (Nat.le_of_ble_eq_true rfl) ct2 (by omega) (by omega) (fun ad2 H2 locs2 hLx2 hext2 => ?_)
  exact l_cmp (pc := 535) (off := 809) X hv (Nat.lt_of_le_of_lt hr (by decide)) h12 hLx2 s2 ((hext2 0 (by omega)).trans h0a) ((hext2 668 (by omega)).trans h6a) hl hI2 (by omega) (by omega) (by omega) (by omega) dL_law_535 dL_law_537 dL_law_538 dL_law_541 dL_law_543 dL_law_548 dL_law_550 dL_law_553 dL_law_554 dL_law_555 dL_law_556 dL_law_558 dL_law_559 dL_law_560 dL_law_565 rfl k12_thrown (r10_law _ (List.mem_of_getElem? (i := 7) rfl)) kk
theorem lc_unlike {D : va_G} {dA : Nat → ClassId} {cL : ClassId} {p : Program} {l : Launch} {e : Env} {s : State} {mid : MethodId} {b L : Nat} {xs : Nat → Int32} {below : List Frame} {meth : Method} {c : Code} {Q : State → Prop} {H : Heap} {locs : List Loc} {ls : Array Slot} {i Z Z2 x0 m0 q : Nat} {m : Mm} {v : Int64} {ad : Nat → Nat} (X : LC D dA cL p l s mid b L xs meth c) (hL : L ≤ 2560) (hi : i + 4 < L) (hI : IVx Z m) (hZ : Z + 120000 ≤ Z2) (hZ2 : Z2 < 2147480000) (hLx : Lx D dA (fun z => s.heap.size ≤ z) ad m q cL v s H locs) (h0 : ad 0 = x0) (h668 : ad 668 = m0) (hl : lv_has ls 7 [(0, .ref b), (1, .ref x0), (2, .ref m0), (3, .ref q), (4, .int (nn i))]) (hcc : mC m + 27 ≤ 601024) (hzz : mZ m + 285 ≤ 7293034) (kk : LK D dA cL p l e s mid b i below meth c Q x0 m0 q Z2 (mC m + 26) (mZ m + 284)) : W p l e room_1 s mid #[Value.ref b] below meth c H locs (mC m + 1) (mZ m + 1) Q (F0 mid 568 ls []) := by
  have hx := X.1
  have hb := X.2.1
  have hSt : St m := hI.st
  obtain ⟨r, hr, o, m1, ⟨rfl, c1, z1, s1, o2, m2, ⟨v2, rfl, hv, h12, c2, z2, s2, hI2⟩, ct2⟩, ct1⟩ := (LStp.unlike hI (xs (i + 1)) (xs (i + 2))).up (show Z ≤ Z2 by omega)
  have h714 : 714 ≤ mN m := hSt.2.2
  have h1714 : 714 ≤ mN m1 := s1.2.2
  refine lv_aload_n hx hb dL_law_568 rfl (lv_at hl 1 rfl) ?_
  refine l_elem (j := 1) (k0 := 0) (k4 := 4) X hLx.2.2.2 hl rfl rfl hL (by omega) dL_law_569 dL_law_570 dL_law_572 (by decide) dL_law_573 dL_law_574 ?_
  refine l_elem (j := 2) (k0 := 0) (k4 := 4) X hLx.2.2.2 hl rfl rfl hL (by omega) dL_law_575 dL_law_576 dL_law_578 (by decide) dL_law_579 dL_law_580 ?_
  refine lv_aload_n hx hb dL_law_581 rfl (lv_at hl 3 rfl) ?_
  refine l_help (y := h_unlike) (y2 := m11_unlike) (js := [xs (i + 1), xs (i + 2)]) (rest := []) X (by decide +kernel) rfl (Nat.le_of_ble_eq_true rfl) h_unlike_B h_unlike_L h_unlike_X hr ct1 dL_law_582 ⟨(r15_law _ (List.mem_of_getElem? (i := 10) rfl)), (r15_law _ (List.mem_of_getElem? (i := 11) rfl)), (r15_law _ (List.mem_of_getElem? (i := 12) rfl)), (r9_law _ (List.mem_of_getElem? (i := 8) rfl))⟩ ⟨by decide +kernel, by decide +kernel, rfl⟩ ⟨by decide, by decide⟩ hLx hSt h0 hl.1 rfl (Nat.le_of_ble_eq_true rfl) (by omega) (by omega) (fun ad1 H1 locs1 hLx1 hext => ?_)
  have h0a : ad1 0 = x0 := (hext 0 (by omega)).trans h0
  have h6a : ad1 668 = m0 := (hext 668 (by omega)).trans h668
  refine lv_istore hx hb dL_law_585 hl (by decide) rfl (fun ls hl => ?_)
  have hl : lv_has ls 7 [(5, .int (nn r.1)), (0, .ref b), (1, .ref x0), (2, .ref m0), (3, .ref q), (4, .int (nn i))] := hl
  refine lv_aload_n hx hb dL_law_587 rfl (lv_at hl 3 rfl) ?_
  refine l_elem (j := 1) (k0 := 1) (k4 := 5) X hLx1.2.2.2 hl rfl rfl hL (by omega) dL_law_588 dL_law_589 dL_law_591 (by decide) dL_law_592 dL_law_593 ?_
  refine l_elem (j := 2) (k0 := 1) (k4 := 5) X hLx1.2.2.2 hl rfl rfl hL (by omega) dL_law_594 dL_law_595 dL_law_597 (by decide) dL_law_598 dL_law_599 ?_
  refine l_callV (y2 := m12_unlike) (b0 := 668) (ci := 12) (js := [xs (i + 1), xs (i + 2)]) (rest := []) X dL_law_600 kL12_unlike (r15_law _ (List.mem_of_getElem? (i := 17) rfl)) ⟨by decide, by decide⟩ rfl (by decide) rfl (by decide) hLx1 s1 h6a hl.1 rfl (Nat.le_of_ble_eq_true rfl) ct2 (by omega) (by omega) (fun ad2 H2 locs2 hLx2 hext2 => ?_)
  exact l_cmp (pc := 603) (off := 741) X hv (Nat.lt_of_le_of_lt hr (by decide)) h12 hLx2 s2 ((hext2 0 (by omega)).trans h0a) ((hext2 668 (by omega)).trans h6a) hl hI2 (by omega) (by omega) (by omega) (by omega) dL_law_603 dL_law_605 dL_law_606 dL_law_609 dL_law_611 dL_law_616 dL_law_618 dL_law_621 dL_law_622 dL_law_623 dL_law_624 dL_law_626 dL_law_627 dL_law_628 dL_law_633 rfl k12_thrown (r10_law _ (List.mem_of_getElem? (i := 7) rfl)) kk
theorem lc_some {D : va_G} {dA : Nat → ClassId} {cL : ClassId} {p : Program} {l : Launch} {e : Env} {s : State} {mid : MethodId} {b L : Nat} {xs : Nat → Int32} {below : List Frame} {meth : Method} {c : Code} {Q : State → Prop} {H : Heap} {locs : List Loc} {ls : Array Slot} {i Z Z2 x0 m0 q : Nat} {m : Mm} {v : Int64} {ad : Nat → Nat} (X : LC D dA cL p l s mid b L xs meth c) (hL : L ≤ 2560) (hi : i + 4 < L) (hI : IVx Z m) (hZ : Z + 120000 ≤ Z2) (hZ2 : Z2 < 2147480000) (hLx : Lx D dA (fun z => s.heap.size ≤ z) ad m q cL v s H locs) (h0 : ad 0 = x0) (h668 : ad 668 = m0) (hl : lv_has ls 7 [(0, .ref b), (1, .ref x0), (2, .ref m0), (3, .ref q), (4, .int (nn i))]) (hcc : mC m + 27 ≤ 601024) (hzz : mZ m + 285 ≤ 7293034) (kk : LK D dA cL p l e s mid b i below meth c Q x0 m0 q Z2 (mC m + 26) (mZ m + 284)) : W p l e room_1 s mid #[Value.ref b] below meth c H locs (mC m + 1) (mZ m + 1) Q (F0 mid 636 ls []) := by
  have hx := X.1
  have hb := X.2.1
  have hSt : St m := hI.st
  obtain ⟨r, hr, o, m1, ⟨rfl, c1, z1, s1, o2, m2, ⟨v2, rfl, hv, h12, c2, z2, s2, hI2⟩, ct2⟩, ct1⟩ := (LStp.some hI (xs (i + 1))).up (show Z ≤ Z2 by omega)
  have h714 : 714 ≤ mN m := hSt.2.2
  have h1714 : 714 ≤ mN m1 := s1.2.2
  refine lv_aload_n hx hb dL_law_636 rfl (lv_at hl 1 rfl) ?_
  refine l_elem (j := 1) (k0 := 0) (k4 := 4) X hLx.2.2.2 hl rfl rfl hL (by omega) dL_law_637 dL_law_638 dL_law_640 (by decide) dL_law_641 dL_law_642 ?_
  refine lv_aload_n hx hb dL_law_643 rfl (lv_at hl 3 rfl) ?_
  refine l_help (y := h_some) (y2 := m11_some) (js := [xs (i + 1)]) (rest := []) X (by decide +kernel) rfl (Nat.le_of_ble_eq_true rfl) h_some_B h_some_L h_some_X hr ct1 dL_law_644 ⟨(r15_law _ (List.mem_of_getElem? (i := 21) rfl)), (r15_law _ (List.mem_of_getElem? (i := 22) rfl)), (r15_law _ (List.mem_of_getElem? (i := 23) rfl)), (r9_law _ (List.mem_of_getElem? (i := 8) rfl))⟩ ⟨by decide +kernel, by decide +kernel, rfl⟩ ⟨by decide, by decide⟩ hLx hSt h0 hl.1 rfl (Nat.le_of_ble_eq_true rfl) (by omega) (by omega) (fun ad1 H1 locs1 hLx1 hext => ?_)
  have h0a : ad1 0 = x0 := (hext 0 (by omega)).trans h0
  have h6a : ad1 668 = m0 := (hext 668 (by omega)).trans h668
  refine lv_istore hx hb dL_law_647 hl (by decide) rfl (fun ls hl => ?_)
  have hl : lv_has ls 7 [(5, .int (nn r.1)), (0, .ref b), (1, .ref x0), (2, .ref m0), (3, .ref q), (4, .int (nn i))] := hl
  refine lv_aload_n hx hb dL_law_649 rfl (lv_at hl 3 rfl) ?_
  refine l_elem (j := 1) (k0 := 1) (k4 := 5) X hLx1.2.2.2 hl rfl rfl hL (by omega) dL_law_650 dL_law_651 dL_law_653 (by decide) dL_law_654 dL_law_655 ?_
  refine l_callV (y2 := m12_some) (b0 := 668) (ci := 12) (js := [xs (i + 1)]) (rest := []) X dL_law_656 kL12_some (r16_law _ (List.mem_of_getElem? (i := 4) rfl)) ⟨by decide, by decide⟩ rfl (by decide) rfl (by decide) hLx1 s1 h6a hl.1 rfl (Nat.le_of_ble_eq_true rfl) ct2 (by omega) (by omega) (fun ad2 H2 locs2 hLx2 hext2 => ?_)
  exact l_cmp (pc := 659) (off := 685) X hv (Nat.lt_of_le_of_lt hr (by decide)) h12 hLx2 s2 ((hext2 0 (by omega)).trans h0a) ((hext2 668 (by omega)).trans h6a) hl hI2 (by omega) (by omega) (by omega) (by omega) dL_law_659 dL_law_661 dL_law_662 dL_law_665 dL_law_667 dL_law_672 dL_law_674 dL_law_677 dL_law_678 dL_law_679 dL_law_680 dL_law_682 dL_law_683 dL_law_684 dL_law_689 rfl k12_thrown (r10_law _ (List.mem_of_getElem? (i := 7) rfl)) kk
theorem lc_drop {D : va_G} {dA : Nat → ClassId} {cL : ClassId} {p : Program} {l : Launch} {e : Env} {s : State} {mid : MethodId} {b L : Nat} {xs : Nat → Int32} {below : List Frame} {meth : Method} {c : Code} {Q : State → Prop} {H : Heap} {locs : List Loc} {ls : Array Slot} {i Z Z2 x0 m0 q : Nat} {m : Mm} {v : Int64} {ad : Nat → Nat} (X : LC D dA cL p l s mid b L xs meth c) (hL : L ≤ 2560) (hi : i + 4 < L) (hI : IVx Z m) (hZ : Z + 120000 ≤ Z2) (hZ2 : Z2 < 2147480000) (hLx : Lx D dA (fun z => s.heap.size ≤ z) ad m q cL v s H locs) (h0 : ad 0 = x0) (h668 : ad 668 = m0) (hl : lv_has ls 7 [(0, .ref b), (1, .ref x0), (2, .ref m0), (3, .ref q), (4, .int (nn i))]) (hcc : mC m + 27 ≤ 601024) (hzz : mZ m + 285 ≤ 7293034) (kk : LK D dA cL p l e s mid b i below meth c Q x0 m0 q Z2 (mC m + 26) (mZ m + 284)) : W p l e room_1 s mid #[Value.ref b] below meth c H locs (mC m + 1) (mZ m + 1) Q (F0 mid 692 ls []) := by
  have hx := X.1
  have hb := X.2.1
  have hSt : St m := hI.st
  obtain ⟨r, hr, o, m1, ⟨rfl, c1, z1, s1, o2, m2, ⟨v2, rfl, hv, h12, c2, z2, s2, hI2⟩, ct2⟩, ct1⟩ := (LStp.drop hI).up (show Z ≤ Z2 by omega)
  have h714 : 714 ≤ mN m := hSt.2.2
  have h1714 : 714 ≤ mN m1 := s1.2.2
  refine lv_aload_n hx hb dL_law_692 rfl (lv_at hl 1 rfl) ?_
  have hr0 : r.1 = 0 := Nat.le_zero.mp hr
  rw [show outc [] r = .inl (some (.int r.2)) from if_pos hr0] at ct1
  refine l_callV (y2 := m11_drop) (b0 := 0) (ci := 11) (js := []) (rest := []) X dL_law_693 kL11_drop (r16_law _ (List.mem_of_getElem? (i := 8) rfl)) ⟨by decide, by decide⟩ rfl (by decide) rfl (by decide) hLx hSt h0 hl.1 rfl (Nat.le_of_ble_eq_true rfl) ct1 (by omega) (by omega) (fun ad1 H1 locs1 hLx1 hext => ?_)
  refine lv_aload_n hx hb dL_law_696 rfl (lv_at hl 2 rfl) ?_
  refine l_callV (y2 := m12_drop) (b0 := 668) (ci := 12) (js := []) (rest := [.int r.2]) X dL_law_697 kL12_drop (r16_law _ (List.mem_of_getElem? (i := 12) rfl)) ⟨by decide, by decide⟩ rfl (by decide) rfl (by decide) hLx1 s1 ((hext 668 (by omega)).trans h668) hl.1 rfl (Nat.le_of_ble_eq_true rfl) ct2 (by omega) (by omega) (fun ad2 H2 locs2 hLx2 hext2 => ?_)
  refine lv_icmp_eq (tgt := 1374) hx hb dL_law_700 rfl (fun _ => ?_) (fun h => absurd (hv hr0).symm h)
  exact kk ad2 H2 locs2 ls m2 _ hLx2 s2 (((hext2 0 (by omega)).trans (hext 0 (by omega))).trans h0) (((hext2 668 (by omega)).trans (hext 668 (by omega))).trans h668) hl hI2 (by omega) (by omega)
theorem lc_rule {D : va_G} {dA : Nat → ClassId} {cL : ClassId} {p : Program} {l : Launch} {e : Env} {s : State} {mid : MethodId} {b L : Nat} {xs : Nat → Int32} {below : List Frame} {meth : Method} {c : Code} {Q : State → Prop} {H : Heap} {locs : List Loc} {ls : Array Slot} {i Z Z2 x0 m0 q : Nat} {m : Mm} {v : Int64} {ad : Nat → Nat} (X : LC D dA cL p l s mid b L xs meth c) (hL : L ≤ 2560) (hi : i + 4 < L) (hI : IVx Z m) (hZ : Z + 120000 ≤ Z2) (hZ2 : Z2 < 2147480000) (hLx : Lx D dA (fun z => s.heap.size ≤ z) ad m q cL v s H locs) (h0 : ad 0 = x0) (h668 : ad 668 = m0) (hl : lv_has ls 7 [(0, .ref b), (1, .ref x0), (2, .ref m0), (3, .ref q), (4, .int (nn i))]) (hcc : mC m + 27 ≤ 601024) (hzz : mZ m + 285 ≤ 7293034) (kk : LK D dA cL p l e s mid b i below meth c Q x0 m0 q Z2 (mC m + 26) (mZ m + 284)) : W p l e room_1 s mid #[Value.ref b] below meth c H locs (mC m + 1) (mZ m + 1) Q (F0 mid 705 ls []) := by
  have hx := X.1
  have hb := X.2.1
  have hSt : St m := hI.st
  obtain ⟨r, hr, o, m1, ⟨rfl, c1, z1, s1, o2, m2, ⟨v2, rfl, hv, h12, c2, z2, s2, hI2⟩, ct2⟩, ct1⟩ := (LStp.rule hI (xs (i + 1)) (xs (i + 2)) (xs (i + 3)) (xs (i + 4))).up (show Z ≤ Z2 by omega)
  have h714 : 714 ≤ mN m := hSt.2.2
  have h1714 : 714 ≤ mN m1 := s1.2.2
  refine lv_aload_n hx hb dL_law_705 rfl (lv_at hl 1 rfl) ?_
  refine l_elem (j := 1) (k0 := 0) (k4 := 4) X hLx.2.2.2 hl rfl rfl hL (by omega) dL_law_706 dL_law_707 dL_law_709 (by decide) dL_law_710 dL_law_711 ?_
  refine l_elem (j := 2) (k0 := 0) (k4 := 4) X hLx.2.2.2 hl rfl rfl hL (by omega) dL_law_712 dL_law_713 dL_law_715 (by decide) dL_law_716 dL_law_717 ?_
  refine l_elem (j := 3) (k0 := 0) (k4 := 4) X hLx.2.2.2 hl rfl rfl hL (by omega) dL_law_718 dL_law_719 dL_law_721 (by decide) dL_law_722 dL_law_723 ?_
  refine l_elem (j := 4) (k0 := 0) (k4 := 4) X hLx.2.2.2 hl rfl rfl hL (by omega) dL_law_724 dL_law_725 dL_law_727 (by decide) dL_law_728 dL_law_729 ?_
  refine lv_aload_n hx hb dL_law_730 rfl (lv_at hl 3 rfl) ?_
  refine l_help (y := h_rule) (y2 := m11_rule) (js := [xs (i + 1), xs (i + 2), xs (i + 3), xs (i + 4)]) (rest := []) X (by decide +kernel) rfl (Nat.le_of_ble_eq_true rfl) h_rule_B h_rule_L h_rule_X hr ct1 dL_law_731 ⟨(r16_law _ (List.mem_of_getElem? (i := 16) rfl)), (r16_law _ (List.mem_of_getElem? (i := 17) rfl)), (r16_law _ (List.mem_of_getElem? (i := 18) rfl)), (r9_law _ (List.mem_of_getElem? (i := 8) rfl))⟩ ⟨by decide +kernel, by decide +kernel, rfl⟩ ⟨by decide, by decide⟩ hLx hSt h0 hl.1 rfl (Nat.le_of_ble_eq_true rfl) (by omega) (by omega) (fun ad1 H1 locs1 hLx1 hext => ?_)
  have h0a : ad1 0 = x0 := (hext 0 (by omega)).trans h0
  have h6a : ad1 668 = m0 := (hext 668 (by omega)).trans h668
  refine lv_istore hx hb dL_law_734 hl (by decide) rfl (fun ls hl => ?_)
  have hl : lv_has ls 7 [(5, .int (nn r.1)), (0, .ref b), (1, .ref x0), (2, .ref m0), (3, .ref q), (4, .int (nn i))] := hl
  refine lv_aload_n hx hb dL_law_736 rfl (lv_at hl 3 rfl) ?_
  refine l_elem (j := 1) (k0 := 1) (k4 := 5) X hLx1.2.2.2 hl rfl rfl hL (by omega) dL_law_737 dL_law_738 dL_law_740 (by decide) dL_law_741 dL_law_742 ?_
  refine l_elem (j := 2) (k0 := 1) (k4 := 5) X hLx1.2.2.2 hl rfl rfl hL (by omega) dL_law_743 dL_law_744 dL_law_746 (by decide) dL_law_747 dL_law_748 ?_
  refine l_elem (j := 3) (k0 := 1) (k4 := 5) X hLx1.2.2.2 hl rfl rfl hL (by omega) dL_law_749 dL_law_750 dL_law_752 (by decide) dL_law_753 dL_law_754 ?_
  refine l_elem (j := 4) (k0 := 1) (k4 := 5) X hLx1.2.2.2 hl rfl rfl hL (by omega) dL_law_755 dL_law_756 dL_law_758 (by decide) dL_law_759 dL_law_760 ?_
  refine l_callV (y2 := m12_rule) (b0 := 668) (ci := 12) (js := [xs (i + 1), xs (i + 2), xs (i + 3), xs (i + 4)]) (rest := []) X dL_law_761 kL12_rule (r18_law _ (List.mem_of_getElem? (i := 5) rfl)) ⟨by decide, by decide⟩ rfl (by decide) rfl (by decide) hLx1 s1 h6a hl.1 rfl (Nat.le_of_ble_eq_true rfl) ct2 (by omega) (by omega) (fun ad2 H2 locs2 hLx2 hext2 => ?_)
  exact l_cmp (pc := 764) (off := 580) X hv (Nat.lt_of_le_of_lt hr (by decide)) h12 hLx2 s2 ((hext2 0 (by omega)).trans h0a) ((hext2 668 (by omega)).trans h6a) hl hI2 (by omega) (by omega) (by omega) (by omega) dL_law_764 dL_law_766 dL_law_767 dL_law_770 dL_law_772 dL_law_777 dL_law_779 dL_law_782 dL_law_783 dL_law_784 dL_law_785 dL_law_787 dL_law_788 dL_law_789 dL_law_794 rfl k12_thrown (r10_law _ (List.mem_of_getElem? (i := 7) rfl)) kk
theorem lc_unrule {D : va_G} {dA : Nat → ClassId} {cL : ClassId} {p : Program} {l : Launch} {e : Env} {s : State} {mid : MethodId} {b L : Nat} {xs : Nat → Int32} {below : List Frame} {meth : Method} {c : Code} {Q : State → Prop} {H : Heap} {locs : List Loc} {ls : Array Slot} {i Z Z2 x0 m0 q : Nat} {m : Mm} {v : Int64} {ad : Nat → Nat} (X : LC D dA cL p l s mid b L xs meth c) (hL : L ≤ 2560) (hi : i + 4 < L) (hI : IVx Z m) (hZ : Z + 120000 ≤ Z2) (hZ2 : Z2 < 2147480000) (hLx : Lx D dA (fun z => s.heap.size ≤ z) ad m q cL v s H locs) (h0 : ad 0 = x0) (h668 : ad 668 = m0) (hl : lv_has ls 7 [(0, .ref b), (1, .ref x0), (2, .ref m0), (3, .ref q), (4, .int (nn i))]) (hcc : mC m + 27 ≤ 601024) (hzz : mZ m + 285 ≤ 7293034) (kk : LK D dA cL p l e s mid b i below meth c Q x0 m0 q Z2 (mC m + 26) (mZ m + 284)) : W p l e room_1 s mid #[Value.ref b] below meth c H locs (mC m + 1) (mZ m + 1) Q (F0 mid 797 ls []) := by
  have hx := X.1
  have hb := X.2.1
  have hSt : St m := hI.st
  obtain ⟨r, hr, o, m1, ⟨rfl, c1, z1, s1, o2, m2, ⟨v2, rfl, hv, h12, c2, z2, s2, hI2⟩, ct2⟩, ct1⟩ := (LStp.unrule hI (xs (i + 1))).up (show Z ≤ Z2 by omega)
  have h714 : 714 ≤ mN m := hSt.2.2
  have h1714 : 714 ≤ mN m1 := s1.2.2
  refine lv_aload_n hx hb dL_law_797 rfl (lv_at hl 1 rfl) ?_
  refine l_elem (j := 1) (k0 := 0) (k4 := 4) X hLx.2.2.2 hl rfl rfl hL (by omega) dL_law_798 dL_law_799 dL_law_801 (by decide) dL_law_802 dL_law_803 ?_
  refine lv_aload_n hx hb dL_law_804 rfl (lv_at hl 3 rfl) ?_
  refine l_help (y := h_unrule) (y2 := m11_unrule) (js := [xs (i + 1)]) (rest := []) X (by decide +kernel) rfl (Nat.le_of_ble_eq_true rfl) h_unrule_B h_unrule_L h_unrule_X hr ct1 dL_law_805 ⟨(r18_law _ (List.mem_of_getElem? (i := 21) rfl)), (r18_law _ (List.mem_of_getElem? (i := 22) rfl)), (r18_law _ (List.mem_of_getElem? (i := 23) rfl)), (r9_law _ (List.mem_of_getElem? (i := 8) rfl))⟩ ⟨by decide +kernel, by decide +kernel, rfl⟩ ⟨by decide, by decide⟩ hLx hSt h0 hl.1 rfl (Nat.le_of_ble_eq_true rfl) (by omega) (by omega) (fun ad1 H1 locs1 hLx1 hext => ?_)
  have h0a : ad1 0 = x0 := (hext 0 (by omega)).trans h0
  have h6a : ad1 668 = m0 := (hext 668 (by omega)).trans h668
  refine lv_istore hx hb dL_law_808 hl (by decide) rfl (fun ls hl => ?_)
  have hl : lv_has ls 7 [(5, .int (nn r.1)), (0, .ref b), (1, .ref x0), (2, .ref m0), (3, .ref q), (4, .int (nn i))] := hl
  refine lv_aload_n hx hb dL_law_810 rfl (lv_at hl 3 rfl) ?_
  refine l_elem (j := 1) (k0 := 1) (k4 := 5) X hLx1.2.2.2 hl rfl rfl hL (by omega) dL_law_811 dL_law_812 dL_law_814 (by decide) dL_law_815 dL_law_816 ?_
  refine l_callV (y2 := m12_unrule) (b0 := 668) (ci := 12) (js := [xs (i + 1)]) (rest := []) X dL_law_817 kL12_unrule (r19_law _ (List.mem_of_getElem? (i := 10) rfl)) ⟨by decide, by decide⟩ rfl (by decide) rfl (by decide) hLx1 s1 h6a hl.1 rfl (Nat.le_of_ble_eq_true rfl) ct2 (by omega) (by omega) (fun ad2 H2 locs2 hLx2 hext2 => ?_)
  exact l_cmp (pc := 820) (off := 524) X hv (Nat.lt_of_le_of_lt hr (by decide)) h12 hLx2 s2 ((hext2 0 (by omega)).trans h0a) ((hext2 668 (by omega)).trans h6a) hl hI2 (by omega) (by omega) (by omega) (by omega) dL_law_820 dL_law_822 dL_law_823 dL_law_826 dL_law_828 dL_law_833 dL_law_835 dL_law_838 dL_law_839 dL_law_840 dL_law_841 dL_law_843 dL_law_844 dL_law_845 dL_law_850 rfl k12_thrown (r10_law _ (List.mem_of_getElem? (i := 7) rfl)) kk
theorem lc_many {D : va_G} {dA : Nat → ClassId} {cL : ClassId} {p : Program} {l : Launch} {e : Env} {s : State} {mid : MethodId} {b L : Nat} {xs : Nat → Int32} {below : List Frame} {meth : Method} {c : Code} {Q : State → Prop} {H : Heap} {locs : List Loc} {ls : Array Slot} {i Z Z2 x0 m0 q : Nat} {m : Mm} {v : Int64} {ad : Nat → Nat} (X : LC D dA cL p l s mid b L xs meth c) (hL : L ≤ 2560) (hi : i + 4 < L) (hI : IVx Z m) (hZ : Z + 120000 ≤ Z2) (hZ2 : Z2 < 2147480000) (hLx : Lx D dA (fun z => s.heap.size ≤ z) ad m q cL v s H locs) (h0 : ad 0 = x0) (h668 : ad 668 = m0) (hl : lv_has ls 7 [(0, .ref b), (1, .ref x0), (2, .ref m0), (3, .ref q), (4, .int (nn i))]) (hcc : mC m + 27 ≤ 601024) (hzz : mZ m + 285 ≤ 7293034) (kk : LK D dA cL p l e s mid b i below meth c Q x0 m0 q Z2 (mC m + 26) (mZ m + 284)) : W p l e room_1 s mid #[Value.ref b] below meth c H locs (mC m + 1) (mZ m + 1) Q (F0 mid 853 ls []) := by
  have hx := X.1
  have hb := X.2.1
  have hSt : St m := hI.st
  obtain ⟨r, hr, o, m1, ⟨rfl, c1, z1, s1, o2, m2, ⟨v2, rfl, hv, h12, c2, z2, s2, hI2⟩, ct2⟩, ct1⟩ := (LStp.many hI).up (show Z ≤ Z2 by omega)
  have h714 : 714 ≤ mN m := hSt.2.2
  have h1714 : 714 ≤ mN m1 := s1.2.2
  refine lv_aload_n hx hb dL_law_853 rfl (lv_at hl 1 rfl) ?_
  have hr0 : r.1 = 0 := Nat.le_zero.mp hr
  rw [show outc [] r = .inl (some (.int r.2)) from if_pos hr0] at ct1
  refine l_callV (y2 := m11_many) (b0 := 0) (ci := 11) (js := []) (rest := []) X dL_law_854 kL11_many (r19_law _ (List.mem_of_getElem? (i := 14) rfl)) ⟨by decide, by decide⟩ rfl (by decide) rfl (by decide) hLx hSt h0 hl.1 rfl (Nat.le_of_ble_eq_true rfl) ct1 (by omega) (by omega) (fun ad1 H1 locs1 hLx1 hext => ?_)
  refine lv_aload_n hx hb dL_law_857 rfl (lv_at hl 2 rfl) ?_
  refine l_callV (y2 := m12_many) (b0 := 668) (ci := 12) (js := []) (rest := [.int r.2]) X dL_law_858 kL12_many (r20_law _ (List.mem_of_getElem? (i := 19) rfl)) ⟨by decide, by decide⟩ rfl (by decide) rfl (by decide) hLx1 s1 ((hext 668 (by omega)).trans h668) hl.1 rfl (Nat.le_of_ble_eq_true rfl) ct2 (by omega) (by omega) (fun ad2 H2 locs2 hLx2 hext2 => ?_)
  refine lv_icmp_eq (tgt := 1374) hx hb dL_law_861 rfl (fun _ => ?_) (fun h => absurd (hv hr0).symm h)
  exact kk ad2 H2 locs2 ls m2 _ hLx2 s2 (((hext2 0 (by omega)).trans (hext 0 (by omega))).trans h0) (((hext2 668 (by omega)).trans (hext 668 (by omega))).trans h668) hl hI2 (by omega) (by omega)
theorem lc_goal {D : va_G} {dA : Nat → ClassId} {cL : ClassId} {p : Program} {l : Launch} {e : Env} {s : State} {mid : MethodId} {b L : Nat} {xs : Nat → Int32} {below : List Frame} {meth : Method} {c : Code} {Q : State → Prop} {H : Heap} {locs : List Loc} {ls : Array Slot} {i Z Z2 x0 m0 q : Nat} {m : Mm} {v : Int64} {ad : Nat → Nat} (X : LC D dA cL p l s mid b L xs meth c) (hL : L ≤ 2560) (hi : i + 4 < L) (hI : IVx Z m) (hZ : Z + 120000 ≤ Z2) (hZ2 : Z2 < 2147480000) (hLx : Lx D dA (fun z => s.heap.size ≤ z) ad m q cL v s H locs) (h0 : ad 0 = x0) (h668 : ad 668 = m0) (hl : lv_has ls 7 [(0, .ref b), (1, .ref x0), (2, .ref m0), (3, .ref q), (4, .int (nn i))]) (hcc : mC m + 27 ≤ 601024) (hzz : mZ m + 285 ≤ 7293034) (kk : LK D dA cL p l e s mid b i below meth c Q x0 m0 q Z2 (mC m + 26) (mZ m + 284)) : W p l e room_1 s mid #[Value.ref b] below meth c H locs (mC m + 1) (mZ m + 1) Q (F0 mid 866 ls []) := by
  have hx := X.1
  have hb := X.2.1
  have hSt : St m := hI.st
  obtain ⟨r, hr, o, m1, ⟨rfl, c1, z1, s1, o2, m2, ⟨v2, rfl, hv, h12, c2, z2, s2, hI2⟩, ct2⟩, ct1⟩ := (LStp.goal hI (xs (i + 1))).up (show Z ≤ Z2 by omega)
  have h714 : 714 ≤ mN m := hSt.2.2
  have h1714 : 714 ≤ mN m1 := s1.2.2
  refine lv_aload_n hx hb dL_law_866 rfl (lv_at hl 1 rfl) ?_
  refine l_elem (j := 1) (k0 := 0) (k4 := 4) X hLx.2.2.2 hl rfl rfl hL (by omega) dL_law_867 dL_law_868 dL_law_870 (by decide) dL_law_871 dL_law_872 ?_
  refine lv_aload_n hx hb dL_law_873 rfl (lv_at hl 3 rfl) ?_
  refine l_help (y := h_goal) (y2 := m11_goal) (js := [xs (i + 1)]) (rest := []) X (by decide +kernel) rfl (Nat.le_of_ble_eq_true rfl) h_goal_B h_goal_L h_goal_X hr ct1 dL_law_874 ⟨(r21_law _ (List.mem_of_getElem? (i := 23) rfl)), (r22_law _ (List.mem_of_getElem? (i := 0) rfl)), (r22_law _ (List.mem_of_getElem? (i := 1) rfl)), (r9_law _ (List.mem_of_getElem? (i := 8) rfl))⟩ ⟨by decide +kernel, by decide +kernel, rfl⟩ ⟨by decide, by decide⟩ hLx hSt h0 hl.1 rfl (Nat.le_of_ble_eq_true rfl) (by omega) (by omega) (fun ad1 H1 locs1 hLx1 hext => ?_)
  have h0a : ad1 0 = x0 := (hext 0 (by omega)).trans h0
  have h6a : ad1 668 = m0 := (hext 668 (by omega)).trans h668
  refine lv_istore hx hb dL_law_877 hl (by decide) rfl (fun ls hl => ?_)
  have hl : lv_has ls 7 [(5, .int (nn r.1)), (0, .ref b), (1, .ref x0), (2, .ref m0), (3, .ref q), (4, .int (nn i))] := hl
  refine lv_aload_n hx hb dL_law_879 rfl (lv_at hl 3 rfl) ?_
  refine l_elem (j := 1) (k0 := 1) (k4 := 5) X hLx1.2.2.2 hl rfl rfl hL (by omega) dL_law_880 dL_law_881 dL_law_883 (by decide) dL_law_884 dL_law_885 ?_
  refine l_callV (y2 := m12_goal) (b0 := 668) (ci := 12) (js := [xs (i + 1)]) (rest := []) X dL_law_886 kL12_goal (r22_law _ (List.mem_of_getElem? (i := 6) rfl)) ⟨by decide, by decide⟩ rfl (by decide) rfl (by decide) hLx1 s1 h6a hl.1 rfl (Nat.le_of_ble_eq_true rfl) ct2 (by omega) (by omega) (fun ad2 H2 locs2 hLx2 hext2 => ?_)
  exact l_cmp (pc := 889) (off := 455) X hv (Nat.lt_of_le_of_lt hr (by decide)) h12 hLx2 s2 ((hext2 0 (by omega)).trans h0a) ((hext2 668 (by omega)).trans h6a) hl hI2 (by omega) (by omega) (by omega) (by omega) dL_law_889 dL_law_891 dL_law_892 dL_law_895 dL_law_897 dL_law_902 dL_law_904 dL_law_907 dL_law_908 dL_law_909 dL_law_910 dL_law_912 dL_law_913 dL_law_914 dL_law_919 rfl k12_thrown (r10_law _ (List.mem_of_getElem? (i := 7) rfl)) kk
theorem lc_search {D : va_G} {dA : Nat → ClassId} {cL : ClassId} {p : Program} {l : Launch} {e : Env} {s : State} {mid : MethodId} {b L : Nat} {xs : Nat → Int32} {below : List Frame} {meth : Method} {c : Code} {Q : State → Prop} {H : Heap} {locs : List Loc} {ls : Array Slot} {i Z Z2 x0 m0 q : Nat} {m : Mm} {v : Int64} {ad : Nat → Nat} (X : LC D dA cL p l s mid b L xs meth c) (hL : L ≤ 2560) (hi : i + 4 < L) (hI : IVx Z m) (hZ : Z + 120000 ≤ Z2) (hZ2 : Z2 < 2147480000) (hLx : Lx D dA (fun z => s.heap.size ≤ z) ad m q cL v s H locs) (h0 : ad 0 = x0) (h668 : ad 668 = m0) (hl : lv_has ls 7 [(0, .ref b), (1, .ref x0), (2, .ref m0), (3, .ref q), (4, .int (nn i))]) (hcc : mC m + 27 ≤ 601024) (hzz : mZ m + 285 ≤ 7293034) (kk : LK D dA cL p l e s mid b i below meth c Q x0 m0 q Z2 (mC m + 26) (mZ m + 284)) : W p l e room_1 s mid #[Value.ref b] below meth c H locs (mC m + 1) (mZ m + 1) Q (F0 mid 922 ls []) := by
  have hx := X.1
  have hb := X.2.1
  have hSt : St m := hI.st
  obtain ⟨r, hr, o, m1, ⟨rfl, c1, z1, s1, o2, m2, ⟨v2, rfl, hv, h12, c2, z2, s2, hI2⟩, ct2⟩, ct1⟩ := LStp.search hI hZ hZ2 (xs (i + 1)) (xs (i + 2))
  have h714 : 714 ≤ mN m := hSt.2.2
  have h1714 : 714 ≤ mN m1 := s1.2.2
  refine lv_aload_n hx hb dL_law_922 rfl (lv_at hl 1 rfl) ?_
  refine l_elem (j := 1) (k0 := 0) (k4 := 4) X hLx.2.2.2 hl rfl rfl hL (by omega) dL_law_923 dL_law_924 dL_law_926 (by decide) dL_law_927 dL_law_928 ?_
  refine l_elem (j := 2) (k0 := 0) (k4 := 4) X hLx.2.2.2 hl rfl rfl hL (by omega) dL_law_929 dL_law_930 dL_law_932 (by decide) dL_law_933 dL_law_934 ?_
  refine lv_aload_n hx hb dL_law_935 rfl (lv_at hl 3 rfl) ?_
  refine l_help (y := h_search) (y2 := m11_search) (js := [xs (i + 1), xs (i + 2)]) (rest := []) X (by decide +kernel) rfl (Nat.le_of_ble_eq_true rfl) h_search_B h_search_L h_search_X hr ct1 dL_law_936 ⟨(r22_law _ (List.mem_of_getElem? (i := 12) rfl)), (r22_law _ (List.mem_of_getElem? (i := 13) rfl)), (r22_law _ (List.mem_of_getElem? (i := 14) rfl)), (r9_law _ (List.mem_of_getElem? (i := 8) rfl))⟩ ⟨by decide +kernel, by decide +kernel, rfl⟩ ⟨by decide, by decide⟩ hLx hSt h0 hl.1 rfl (Nat.le_of_ble_eq_true rfl) (by omega) (by omega) (fun ad1 H1 locs1 hLx1 hext => ?_)
  have h0a : ad1 0 = x0 := (hext 0 (by omega)).trans h0
  have h6a : ad1 668 = m0 := (hext 668 (by omega)).trans h668
  refine lv_istore hx hb dL_law_939 hl (by decide) rfl (fun ls hl => ?_)
  have hl : lv_has ls 7 [(5, .int (nn r.1)), (0, .ref b), (1, .ref x0), (2, .ref m0), (3, .ref q), (4, .int (nn i))] := hl
  refine lv_aload_n hx hb dL_law_941 rfl (lv_at hl 3 rfl) ?_
  refine l_elem (j := 1) (k0 := 1) (k4 := 5) X hLx1.2.2.2 hl rfl rfl hL (by omega) dL_law_942 dL_law_943 dL_law_945 (by decide) dL_law_946 dL_law_947 ?_
  refine l_elem (j := 2) (k0 := 1) (k4 := 5) X hLx1.2.2.2 hl rfl rfl hL (by omega) dL_law_948 dL_law_949 dL_law_951 (by decide) dL_law_952 dL_law_953 ?_
  refine l_callV (y2 := m12_search) (b0 := 668) (ci := 12) (js := [xs (i + 1), xs (i + 2)]) (rest := []) X dL_law_954 kL12_search (r31_law _ (List.mem_of_getElem? (i := 0) rfl)) ⟨by decide, by decide⟩ rfl (by decide) rfl (by decide) hLx1 s1 h6a hl.1 rfl (Nat.le_of_ble_eq_true rfl) ct2 (by omega) (by omega) (fun ad2 H2 locs2 hLx2 hext2 => ?_)
  exact l_cmp (pc := 957) (off := 387) X hv (Nat.lt_of_le_of_lt hr (by decide)) h12 hLx2 s2 ((hext2 0 (by omega)).trans h0a) ((hext2 668 (by omega)).trans h6a) hl hI2 (by omega) (by omega) (by omega) (by omega) dL_law_957 dL_law_959 dL_law_960 dL_law_963 dL_law_965 dL_law_970 dL_law_972 dL_law_975 dL_law_976 dL_law_977 dL_law_978 dL_law_980 dL_law_981 dL_law_982 dL_law_987 rfl k12_thrown (r10_law _ (List.mem_of_getElem? (i := 7) rfl)) kk
theorem lc_count {D : va_G} {dA : Nat → ClassId} {cL : ClassId} {p : Program} {l : Launch} {e : Env} {s : State} {mid : MethodId} {b L : Nat} {xs : Nat → Int32} {below : List Frame} {meth : Method} {c : Code} {Q : State → Prop} {H : Heap} {locs : List Loc} {ls : Array Slot} {i Z Z2 x0 m0 q : Nat} {m : Mm} {v : Int64} {ad : Nat → Nat} (X : LC D dA cL p l s mid b L xs meth c) (hL : L ≤ 2560) (hi : i + 4 < L) (hI : IVx Z m) (hZ : Z + 120000 ≤ Z2) (hZ2 : Z2 < 2147480000) (hLx : Lx D dA (fun z => s.heap.size ≤ z) ad m q cL v s H locs) (h0 : ad 0 = x0) (h668 : ad 668 = m0) (hl : lv_has ls 7 [(0, .ref b), (1, .ref x0), (2, .ref m0), (3, .ref q), (4, .int (nn i))]) (hcc : mC m + 27 ≤ 601024) (hzz : mZ m + 285 ≤ 7293034) (kk : LK D dA cL p l e s mid b i below meth c Q x0 m0 q Z2 (mC m + 26) (mZ m + 284)) : W p l e room_1 s mid #[Value.ref b] below meth c H locs (mC m + 1) (mZ m + 1) Q (F0 mid 990 ls []) := by
  have hx := X.1
  have hb := X.2.1
  have hSt : St m := hI.st
  obtain ⟨r, hr, o, m1, ⟨rfl, c1, z1, s1, o2, m2, ⟨v2, rfl, hv, h12, c2, z2, s2, hI2⟩, ct2⟩, ct1⟩ := (LStp.count hI (xs (i + 1))).up (show Z ≤ Z2 by omega)
  have h714 : 714 ≤ mN m := hSt.2.2
  have h1714 : 714 ≤ mN m1 := s1.2.2
  refine lv_aload_n hx hb dL_law_990 rfl (lv_at hl 1 rfl) ?_
  refine l_elem (j := 1) (k0 := 0) (k4 := 4) X hLx.2.2.2 hl rfl rfl hL (by omega) dL_law_991 dL_law_992 dL_law_994 (by decide) dL_law_995 dL_law_996 ?_
  refine lv_aload_n hx hb dL_law_997 rfl (lv_at hl 3 rfl) ?_
  refine l_help (y := h_count) (y2 := m11_count) (js := [xs (i + 1)]) (rest := []) X (by decide +kernel) rfl (Nat.le_of_ble_eq_true rfl) h_count_B h_count_L h_count_X hr ct1 dL_law_998 ⟨(r36_law _ (List.mem_of_getElem? (i := 21) rfl)), (r36_law _ (List.mem_of_getElem? (i := 22) rfl)), (r36_law _ (List.mem_of_getElem? (i := 23) rfl)), (r9_law _ (List.mem_of_getElem? (i := 8) rfl))⟩ ⟨by decide +kernel, by decide +kernel, rfl⟩ ⟨by decide, by decide⟩ hLx hSt h0 hl.1 rfl (Nat.le_of_ble_eq_true rfl) (by omega) (by omega) (fun ad1 H1 locs1 hLx1 hext => ?_)
  have h0a : ad1 0 = x0 := (hext 0 (by omega)).trans h0
  have h6a : ad1 668 = m0 := (hext 668 (by omega)).trans h668
  refine lv_istore hx hb dL_law_1001 hl (by decide) rfl (fun ls hl => ?_)
  have hl : lv_has ls 7 [(5, .int (nn r.1)), (0, .ref b), (1, .ref x0), (2, .ref m0), (3, .ref q), (4, .int (nn i))] := hl
  refine lv_aload_n hx hb dL_law_1003 rfl (lv_at hl 3 rfl) ?_
  refine l_elem (j := 1) (k0 := 1) (k4 := 5) X hLx1.2.2.2 hl rfl rfl hL (by omega) dL_law_1004 dL_law_1005 dL_law_1007 (by decide) dL_law_1008 dL_law_1009 ?_
  refine l_callV (y2 := m12_count) (b0 := 668) (ci := 12) (js := [xs (i + 1)]) (rest := []) X dL_law_1010 kL12_count (r37_law _ (List.mem_of_getElem? (i := 4) rfl)) ⟨by decide, by decide⟩ rfl (by decide) rfl (by decide) hLx1 s1 h6a hl.1 rfl (Nat.le_of_ble_eq_true rfl) ct2 (by omega) (by omega) (fun ad2 H2 locs2 hLx2 hext2 => ?_)
  exact l_cmp (pc := 1013) (off := 331) X hv (Nat.lt_of_le_of_lt hr (by decide)) h12 hLx2 s2 ((hext2 0 (by omega)).trans h0a) ((hext2 668 (by omega)).trans h6a) hl hI2 (by omega) (by omega) (by omega) (by omega) dL_law_1013 dL_law_1015 dL_law_1016 dL_law_1019 dL_law_1021 dL_law_1026 dL_law_1028 dL_law_1031 dL_law_1032 dL_law_1033 dL_law_1034 dL_law_1036 dL_law_1037 dL_law_1038 dL_law_1043 rfl k12_thrown (r10_law _ (List.mem_of_getElem? (i := 7) rfl)) kk
theorem lc_part {D : va_G} {dA : Nat → ClassId} {cL : ClassId} {p : Program} {l : Launch} {e : Env} {s : State} {mid : MethodId} {b L : Nat} {xs : Nat → Int32} {below : List Frame} {meth : Method} {c : Code} {Q : State → Prop} {H : Heap} {locs : List Loc} {ls : Array Slot} {i Z Z2 x0 m0 q : Nat} {m : Mm} {v : Int64} {ad : Nat → Nat} (X : LC D dA cL p l s mid b L xs meth c) (hL : L ≤ 2560) (hi : i + 4 < L) (hI : IVx Z m) (hZ : Z + 120000 ≤ Z2) (hZ2 : Z2 < 2147480000) (hLx : Lx D dA (fun z => s.heap.size ≤ z) ad m q cL v s H locs) (h0 : ad 0 = x0) (h668 : ad 668 = m0) (hl : lv_has ls 7 [(0, .ref b), (1, .ref x0), (2, .ref m0), (3, .ref q), (4, .int (nn i))]) (hcc : mC m + 27 ≤ 601024) (hzz : mZ m + 285 ≤ 7293034) (kk : LK D dA cL p l e s mid b i below meth c Q x0 m0 q Z2 (mC m + 26) (mZ m + 284)) : W p l e room_1 s mid #[Value.ref b] below meth c H locs (mC m + 1) (mZ m + 1) Q (F0 mid 1046 ls []) := by
  have hx := X.1
  have hb := X.2.1
  have hSt : St m := hI.st
  obtain ⟨r, hr, o, m1, ⟨rfl, c1, z1, s1, o2, m2, ⟨v2, rfl, hv, h12, c2, z2, s2, hI2⟩, ct2⟩, ct1⟩ := (LStp.part hI (xs (i + 1)) (xs (i + 2))).up (show Z ≤ Z2 by omega)
  have h714 : 714 ≤ mN m := hSt.2.2
  have h1714 : 714 ≤ mN m1 := s1.2.2
  refine lv_aload_n hx hb dL_law_1046 rfl (lv_at hl 1 rfl) ?_
  refine l_elem (j := 1) (k0 := 0) (k4 := 4) X hLx.2.2.2 hl rfl rfl hL (by omega) dL_law_1047 dL_law_1048 dL_law_1050 (by decide) dL_law_1051 dL_law_1052 ?_
  refine l_elem (j := 2) (k0 := 0) (k4 := 4) X hLx.2.2.2 hl rfl rfl hL (by omega) dL_law_1053 dL_law_1054 dL_law_1056 (by decide) dL_law_1057 dL_law_1058 ?_
  refine lv_aload_n hx hb dL_law_1059 rfl (lv_at hl 3 rfl) ?_
  refine l_help (y := h_part) (y2 := m11_part) (js := [xs (i + 1), xs (i + 2)]) (rest := []) X (by decide +kernel) rfl (Nat.le_of_ble_eq_true rfl) h_part_B h_part_L h_part_X hr ct1 dL_law_1060 ⟨(r37_law _ (List.mem_of_getElem? (i := 8) rfl)), (r37_law _ (List.mem_of_getElem? (i := 9) rfl)), (r37_law _ (List.mem_of_getElem? (i := 10) rfl)), (r9_law _ (List.mem_of_getElem? (i := 8) rfl))⟩ ⟨by decide +kernel, by decide +kernel, rfl⟩ ⟨by decide, by decide⟩ hLx hSt h0 hl.1 rfl (Nat.le_of_ble_eq_true rfl) (by omega) (by omega) (fun ad1 H1 locs1 hLx1 hext => ?_)
  have h0a : ad1 0 = x0 := (hext 0 (by omega)).trans h0
  have h6a : ad1 668 = m0 := (hext 668 (by omega)).trans h668
  refine lv_istore hx hb dL_law_1063 hl (by decide) rfl (fun ls hl => ?_)
  have hl : lv_has ls 7 [(5, .int (nn r.1)), (0, .ref b), (1, .ref x0), (2, .ref m0), (3, .ref q), (4, .int (nn i))] := hl
  refine lv_aload_n hx hb dL_law_1065 rfl (lv_at hl 3 rfl) ?_
  refine l_elem (j := 1) (k0 := 1) (k4 := 5) X hLx1.2.2.2 hl rfl rfl hL (by omega) dL_law_1066 dL_law_1067 dL_law_1069 (by decide) dL_law_1070 dL_law_1071 ?_
  refine l_elem (j := 2) (k0 := 1) (k4 := 5) X hLx1.2.2.2 hl rfl rfl hL (by omega) dL_law_1072 dL_law_1073 dL_law_1075 (by decide) dL_law_1076 dL_law_1077 ?_
  refine l_callV (y2 := m12_part) (b0 := 668) (ci := 12) (js := [xs (i + 1), xs (i + 2)]) (rest := []) X dL_law_1078 kL12_part (r37_law _ (List.mem_of_getElem? (i := 22) rfl)) ⟨by decide, by decide⟩ rfl (by decide) rfl (by decide) hLx1 s1 h6a hl.1 rfl (Nat.le_of_ble_eq_true rfl) ct2 (by omega) (by omega) (fun ad2 H2 locs2 hLx2 hext2 => ?_)
  exact l_cmp (pc := 1081) (off := 263) X hv (Nat.lt_of_le_of_lt hr (by decide)) h12 hLx2 s2 ((hext2 0 (by omega)).trans h0a) ((hext2 668 (by omega)).trans h6a) hl hI2 (by omega) (by omega) (by omega) (by omega) dL_law_1081 dL_law_1083 dL_law_1084 dL_law_1087 dL_law_1089 dL_law_1094 dL_law_1096 dL_law_1099 dL_law_1100 dL_law_1101 dL_law_1102 dL_law_1104 dL_law_1105 dL_law_1106 dL_law_1111 rfl k12_thrown (r10_law _ (List.mem_of_getElem? (i := 7) rfl)) kk
theorem lc_bound {D : va_G} {dA : Nat → ClassId} {cL : ClassId} {p : Program} {l : Launch} {e : Env} {s : State} {mid : MethodId} {b L : Nat} {xs : Nat → Int32} {below : List Frame} {meth : Method} {c : Code} {Q : State → Prop} {H : Heap} {locs : List Loc} {ls : Array Slot} {i Z Z2 x0 m0 q : Nat} {m : Mm} {v : Int64} {ad : Nat → Nat} (X : LC D dA cL p l s mid b L xs meth c) (hL : L ≤ 2560) (hi : i + 4 < L) (hI : IVx Z m) (hZ : Z + 120000 ≤ Z2) (hZ2 : Z2 < 2147480000) (hLx : Lx D dA (fun z => s.heap.size ≤ z) ad m q cL v s H locs) (h0 : ad 0 = x0) (h668 : ad 668 = m0) (hl : lv_has ls 7 [(0, .ref b), (1, .ref x0), (2, .ref m0), (3, .ref q), (4, .int (nn i))]) (hcc : mC m + 27 ≤ 601024) (hzz : mZ m + 285 ≤ 7293034) (kk : LK D dA cL p l e s mid b i below meth c Q x0 m0 q Z2 (mC m + 26) (mZ m + 284)) : W p l e room_1 s mid #[Value.ref b] below meth c H locs (mC m + 1) (mZ m + 1) Q (F0 mid 1114 ls []) := by
  have hx := X.1
  have hb := X.2.1
  have hSt : St m := hI.st
  obtain ⟨r, hr, o, m1, ⟨rfl, c1, z1, s1, o2, m2, ⟨v2, rfl, hv, h12, c2, z2, s2, hI2⟩, ct2⟩, ct1⟩ := (LStp.bound hI (xs (i + 1)) (xs (i + 2)) (xs (i + 3))).up (show Z ≤ Z2 by omega)
  have h714 : 714 ≤ mN m := hSt.2.2
  have h1714 : 714 ≤ mN m1 := s1.2.2
  refine lv_aload_n hx hb dL_law_1114 rfl (lv_at hl 1 rfl) ?_
  refine l_elem (j := 1) (k0 := 0) (k4 := 4) X hLx.2.2.2 hl rfl rfl hL (by omega) dL_law_1115 dL_law_1116 dL_law_1118 (by decide) dL_law_1119 dL_law_1120 ?_
  refine l_elem (j := 2) (k0 := 0) (k4 := 4) X hLx.2.2.2 hl rfl rfl hL (by omega) dL_law_1121 dL_law_1122 dL_law_1124 (by decide) dL_law_1125 dL_law_1126 ?_
  refine l_elem (j := 3) (k0 := 0) (k4 := 4) X hLx.2.2.2 hl rfl rfl hL (by omega) dL_law_1127 dL_law_1128 dL_law_1130 (by decide) dL_law_1131 dL_law_1132 ?_
  refine lv_aload_n hx hb dL_law_1133 rfl (lv_at hl 3 rfl) ?_
  refine l_help (y := h_bound) (y2 := m11_bound) (js := [xs (i + 1), xs (i + 2), xs (i + 3)]) (rest := []) X (by decide +kernel) rfl (Nat.le_of_ble_eq_true rfl) h_bound_B h_bound_L h_bound_X hr ct1 dL_law_1134 ⟨(r38_law _ (List.mem_of_getElem? (i := 10) rfl)), (r38_law _ (List.mem_of_getElem? (i := 11) rfl)), (r38_law _ (List.mem_of_getElem? (i := 12) rfl)), (r9_law _ (List.mem_of_getElem? (i := 8) rfl))⟩ ⟨by decide +kernel, by decide +kernel, rfl⟩ ⟨by decide, by decide⟩ hLx hSt h0 hl.1 rfl (Nat.le_of_ble_eq_true rfl) (by omega) (by omega) (fun ad1 H1 locs1 hLx1 hext => ?_)
  have h0a : ad1 0 = x0 := (hext 0 (by omega)).trans h0
  have h6a : ad1 668 = m0 := (hext 668 (by omega)).trans h668
  refine lv_istore hx hb dL_law_1137 hl (by decide) rfl (fun ls hl => ?_)
  have hl : lv_has ls 7 [(5, .int (nn r.1)), (0, .ref b), (1, .ref x0), (2, .ref m0), (3, .ref q), (4, .int (nn i))] := hl
  refine lv_aload_n hx hb dL_law_1139 rfl (lv_at hl 3 rfl) ?_
  refine l_elem (j := 1) (k0 := 1) (k4 := 5) X hLx1.2.2.2 hl rfl rfl hL (by omega) dL_law_1140 dL_law_1141 dL_law_1143 (by decide) dL_law_1144 dL_law_1145 ?_
  refine l_elem (j := 2) (k0 := 1) (k4 := 5) X hLx1.2.2.2 hl rfl rfl hL (by omega) dL_law_1146 dL_law_1147 dL_law_1149 (by decide) dL_law_1150 dL_law_1151 ?_
  refine l_elem (j := 3) (k0 := 1) (k4 := 5) X hLx1.2.2.2 hl rfl rfl hL (by omega) dL_law_1152 dL_law_1153 dL_law_1155 (by decide) dL_law_1156 dL_law_1157 ?_
  refine l_callV (y2 := m12_bound) (b0 := 668) (ci := 12) (js := [xs (i + 1), xs (i + 2), xs (i + 3)]) (rest := []) X dL_law_1158 kL12_bound (r38_law _ (List.mem_of_getElem? (i := 17) rfl)) ⟨by decide, by decide⟩ rfl (by decide) rfl (by decide) hLx1 s1 h6a hl.1 rfl (Nat.le_of_ble_eq_true rfl) ct2 (by omega) (by omega) (fun ad2 H2 locs2 hLx2 hext2 => ?_)
  exact l_cmp (pc := 1161) (off := 183) X hv (Nat.lt_of_le_of_lt hr (by decide)) h12 hLx2 s2 ((hext2 0 (by omega)).trans h0a) ((hext2 668 (by omega)).trans h6a) hl hI2 (by omega) (by omega) (by omega) (by omega) dL_law_1161 dL_law_1163 dL_law_1164 dL_law_1167 dL_law_1169 dL_law_1174 dL_law_1176 dL_law_1179 dL_law_1180 dL_law_1181 dL_law_1182 dL_law_1184 dL_law_1185 dL_law_1186 dL_law_1191 rfl k12_thrown (r10_law _ (List.mem_of_getElem? (i := 7) rfl)) kk
theorem lc_steps {D : va_G} {dA : Nat → ClassId} {cL : ClassId} {p : Program} {l : Launch} {e : Env} {s : State} {mid : MethodId} {b L : Nat} {xs : Nat → Int32} {below : List Frame} {meth : Method} {c : Code} {Q : State → Prop} {H : Heap} {locs : List Loc} {ls : Array Slot} {i Z Z2 x0 m0 q : Nat} {m : Mm} {v : Int64} {ad : Nat → Nat} (X : LC D dA cL p l s mid b L xs meth c) (hL : L ≤ 2560) (hi : i + 4 < L) (hI : IVx Z m) (hZ : Z + 120000 ≤ Z2) (hZ2 : Z2 < 2147480000) (hLx : Lx D dA (fun z => s.heap.size ≤ z) ad m q cL v s H locs) (h0 : ad 0 = x0) (h668 : ad 668 = m0) (hl : lv_has ls 7 [(0, .ref b), (1, .ref x0), (2, .ref m0), (3, .ref q), (4, .int (nn i))]) (hcc : mC m + 27 ≤ 601024) (hzz : mZ m + 285 ≤ 7293034) (kk : LK D dA cL p l e s mid b i below meth c Q x0 m0 q Z2 (mC m + 26) (mZ m + 284)) : W p l e room_1 s mid #[Value.ref b] below meth c H locs (mC m + 1) (mZ m + 1) Q (F0 mid 1194 ls []) := by
  have hx := X.1
  have hb := X.2.1
  have hSt : St m := hI.st
  obtain ⟨r, hr, o, m1, ⟨rfl, c1, z1, s1, o2, m2, ⟨v2, rfl, hv, h12, c2, z2, s2, hI2⟩, ct2⟩, ct1⟩ := (LStp.steps hI (xs (i + 1))).up (show Z ≤ Z2 by omega)
  have h714 : 714 ≤ mN m := hSt.2.2
  have h1714 : 714 ≤ mN m1 := s1.2.2
  refine lv_aload_n hx hb dL_law_1194 rfl (lv_at hl 1 rfl) ?_
  refine l_elem (j := 1) (k0 := 0) (k4 := 4) X hLx.2.2.2 hl rfl rfl hL (by omega) dL_law_1195 dL_law_1196 dL_law_1198 (by decide) dL_law_1199 dL_law_1200 ?_
  refine lv_aload_n hx hb dL_law_1201 rfl (lv_at hl 3 rfl) ?_
  refine l_help (y := h_steps) (y2 := m11_steps) (js := [xs (i + 1)]) (rest := []) X (by decide +kernel) rfl (Nat.le_of_ble_eq_true rfl) h_steps_B h_steps_L h_steps_X hr ct1 dL_law_1202 ⟨(r38_law _ (List.mem_of_getElem? (i := 21) rfl)), (r38_law _ (List.mem_of_getElem? (i := 22) rfl)), (r38_law _ (List.mem_of_getElem? (i := 23) rfl)), (r9_law _ (List.mem_of_getElem? (i := 8) rfl))⟩ ⟨by decide +kernel, by decide +kernel, rfl⟩ ⟨by decide, by decide⟩ hLx hSt h0 hl.1 rfl (Nat.le_of_ble_eq_true rfl) (by omega) (by omega) (fun ad1 H1 locs1 hLx1 hext => ?_)
  have h0a : ad1 0 = x0 := (hext 0 (by omega)).trans h0
  have h6a : ad1 668 = m0 := (hext 668 (by omega)).trans h668
  refine lv_istore hx hb dL_law_1205 hl (by decide) rfl (fun ls hl => ?_)
  have hl : lv_has ls 7 [(5, .int (nn r.1)), (0, .ref b), (1, .ref x0), (2, .ref m0), (3, .ref q), (4, .int (nn i))] := hl
  refine lv_aload_n hx hb dL_law_1207 rfl (lv_at hl 3 rfl) ?_
  refine l_elem (j := 1) (k0 := 1) (k4 := 5) X hLx1.2.2.2 hl rfl rfl hL (by omega) dL_law_1208 dL_law_1209 dL_law_1211 (by decide) dL_law_1212 dL_law_1213 ?_
  refine l_callV (y2 := m12_steps) (b0 := 668) (ci := 12) (js := [xs (i + 1)]) (rest := []) X dL_law_1214 kL12_steps (r39_law _ (List.mem_of_getElem? (i := 4) rfl)) ⟨by decide, by decide⟩ rfl (by decide) rfl (by decide) hLx1 s1 h6a hl.1 rfl (Nat.le_of_ble_eq_true rfl) ct2 (by omega) (by omega) (fun ad2 H2 locs2 hLx2 hext2 => ?_)
  exact l_cmp (pc := 1217) (off := 127) X hv (Nat.lt_of_le_of_lt hr (by decide)) h12 hLx2 s2 ((hext2 0 (by omega)).trans h0a) ((hext2 668 (by omega)).trans h6a) hl hI2 (by omega) (by omega) (by omega) (by omega) dL_law_1217 dL_law_1219 dL_law_1220 dL_law_1223 dL_law_1225 dL_law_1230 dL_law_1232 dL_law_1235 dL_law_1236 dL_law_1237 dL_law_1238 dL_law_1240 dL_law_1241 dL_law_1242 dL_law_1247 rfl k12_thrown (r10_law _ (List.mem_of_getElem? (i := 7) rfl)) kk
theorem lc_fate {D : va_G} {dA : Nat → ClassId} {cL : ClassId} {p : Program} {l : Launch} {e : Env} {s : State} {mid : MethodId} {b L : Nat} {xs : Nat → Int32} {below : List Frame} {meth : Method} {c : Code} {Q : State → Prop} {H : Heap} {locs : List Loc} {ls : Array Slot} {i Z Z2 x0 m0 q : Nat} {m : Mm} {v : Int64} {ad : Nat → Nat} (X : LC D dA cL p l s mid b L xs meth c) (hL : L ≤ 2560) (hi : i + 4 < L) (hI : IVx Z m) (hZ : Z + 120000 ≤ Z2) (hZ2 : Z2 < 2147480000) (hLx : Lx D dA (fun z => s.heap.size ≤ z) ad m q cL v s H locs) (h0 : ad 0 = x0) (h668 : ad 668 = m0) (hl : lv_has ls 7 [(0, .ref b), (1, .ref x0), (2, .ref m0), (3, .ref q), (4, .int (nn i))]) (hcc : mC m + 27 ≤ 601024) (hzz : mZ m + 285 ≤ 7293034) (kk : LK D dA cL p l e s mid b i below meth c Q x0 m0 q Z2 (mC m + 26) (mZ m + 284)) : W p l e room_1 s mid #[Value.ref b] below meth c H locs (mC m + 1) (mZ m + 1) Q (F0 mid 1250 ls []) := by
  have hx := X.1
  have hb := X.2.1
  have hSt : St m := hI.st
  obtain ⟨r, hr, o, m1, ⟨rfl, c1, z1, s1, o2, m2, ⟨v2, rfl, hv, h12, c2, z2, s2, hI2⟩, ct2⟩, ct1⟩ := (LStp.fate hI (xs (i + 1)) (xs (i + 2))).up (show Z ≤ Z2 by omega)
  have h714 : 714 ≤ mN m := hSt.2.2
  have h1714 : 714 ≤ mN m1 := s1.2.2
  refine lv_aload_n hx hb dL_law_1250 rfl (lv_at hl 1 rfl) ?_
  refine l_elem (j := 1) (k0 := 0) (k4 := 4) X hLx.2.2.2 hl rfl rfl hL (by omega) dL_law_1251 dL_law_1252 dL_law_1254 (by decide) dL_law_1255 dL_law_1256 ?_
  refine l_elem (j := 2) (k0 := 0) (k4 := 4) X hLx.2.2.2 hl rfl rfl hL (by omega) dL_law_1257 dL_law_1258 dL_law_1260 (by decide) dL_law_1261 dL_law_1262 ?_
  refine lv_aload_n hx hb dL_law_1263 rfl (lv_at hl 3 rfl) ?_
  refine l_help (y := h_fate) (y2 := m11_fate) (js := [xs (i + 1), xs (i + 2)]) (rest := []) X (by decide +kernel) rfl (Nat.le_of_ble_eq_true rfl) h_fate_B h_fate_L h_fate_X hr ct1 dL_law_1264 ⟨(r39_law _ (List.mem_of_getElem? (i := 8) rfl)), (r39_law _ (List.mem_of_getElem? (i := 9) rfl)), (r39_law _ (List.mem_of_getElem? (i := 10) rfl)), (r9_law _ (List.mem_of_getElem? (i := 8) rfl))⟩ ⟨by decide +kernel, by decide +kernel, rfl⟩ ⟨by decide, by decide⟩ hLx hSt h0 hl.1 rfl (Nat.le_of_ble_eq_true rfl) (by omega) (by omega) (fun ad1 H1 locs1 hLx1 hext => ?_)
  have h0a : ad1 0 = x0 := (hext 0 (by omega)).trans h0
  have h6a : ad1 668 = m0 := (hext 668 (by omega)).trans h668
  refine lv_istore hx hb dL_law_1267 hl (by decide) rfl (fun ls hl => ?_)
  have hl : lv_has ls 7 [(5, .int (nn r.1)), (0, .ref b), (1, .ref x0), (2, .ref m0), (3, .ref q), (4, .int (nn i))] := hl
  refine lv_aload_n hx hb dL_law_1269 rfl (lv_at hl 3 rfl) ?_
  refine l_elem (j := 1) (k0 := 1) (k4 := 5) X hLx1.2.2.2 hl rfl rfl hL (by omega) dL_law_1270 dL_law_1271 dL_law_1273 (by decide) dL_law_1274 dL_law_1275 ?_
  refine l_elem (j := 2) (k0 := 1) (k4 := 5) X hLx1.2.2.2 hl rfl rfl hL (by omega) dL_law_1276 dL_law_1277 dL_law_1279 (by decide) dL_law_1280 dL_law_1281 ?_
  refine l_callV (y2 := m12_fate) (b0 := 668) (ci := 12) (js := [xs (i + 1), xs (i + 2)]) (rest := []) X dL_law_1282 kL12_fate (r39_law _ (List.mem_of_getElem? (i := 15) rfl)) ⟨by decide, by decide⟩ rfl (by decide) rfl (by decide) hLx1 s1 h6a hl.1 rfl (Nat.le_of_ble_eq_true rfl) ct2 (by omega) (by omega) (fun ad2 H2 locs2 hLx2 hext2 => ?_)
  exact l_cmp (pc := 1285) (off := 59) X hv (Nat.lt_of_le_of_lt hr (by decide)) h12 hLx2 s2 ((hext2 0 (by omega)).trans h0a) ((hext2 668 (by omega)).trans h6a) hl hI2 (by omega) (by omega) (by omega) (by omega) dL_law_1285 dL_law_1287 dL_law_1288 dL_law_1291 dL_law_1293 dL_law_1298 dL_law_1300 dL_law_1303 dL_law_1304 dL_law_1305 dL_law_1306 dL_law_1308 dL_law_1309 dL_law_1310 dL_law_1315 rfl k12_thrown (r10_law _ (List.mem_of_getElem? (i := 7) rfl)) kk
theorem lc_within {D : va_G} {dA : Nat → ClassId} {cL : ClassId} {p : Program} {l : Launch} {e : Env} {s : State} {mid : MethodId} {b L : Nat} {xs : Nat → Int32} {below : List Frame} {meth : Method} {c : Code} {Q : State → Prop} {H : Heap} {locs : List Loc} {ls : Array Slot} {i Z Z2 x0 m0 q : Nat} {m : Mm} {v : Int64} {ad : Nat → Nat} (X : LC D dA cL p l s mid b L xs meth c) (hL : L ≤ 2560) (hi : i + 4 < L) (hI : IVx Z m) (hZ : Z + 120000 ≤ Z2) (hZ2 : Z2 < 2147480000) (hLx : Lx D dA (fun z => s.heap.size ≤ z) ad m q cL v s H locs) (h0 : ad 0 = x0) (h668 : ad 668 = m0) (hl : lv_has ls 7 [(0, .ref b), (1, .ref x0), (2, .ref m0), (3, .ref q), (4, .int (nn i))]) (hcc : mC m + 27 ≤ 601024) (hzz : mZ m + 285 ≤ 7293034) (kk : LK D dA cL p l e s mid b i below meth c Q x0 m0 q Z2 (mC m + 26) (mZ m + 284)) : W p l e room_1 s mid #[Value.ref b] below meth c H locs (mC m + 1) (mZ m + 1) Q (F0 mid 1318 ls []) := by
  have hx := X.1
  have hb := X.2.1
  have hSt : St m := hI.st
  obtain ⟨r, hr, o, m1, ⟨rfl, c1, z1, s1, o2, m2, ⟨v2, rfl, hv, h12, c2, z2, s2, hI2⟩, ct2⟩, ct1⟩ := LStp.within hI hZ hZ2 (xs (i + 1))
  have h714 : 714 ≤ mN m := hSt.2.2
  have h1714 : 714 ≤ mN m1 := s1.2.2
  refine lv_aload_n hx hb dL_law_1318 rfl (lv_at hl 1 rfl) ?_
  refine l_elem (j := 1) (k0 := 0) (k4 := 4) X hLx.2.2.2 hl rfl rfl hL (by omega) dL_law_1319 dL_law_1320 dL_law_1322 (by decide) dL_law_1323 dL_law_1324 ?_
  refine lv_aload_n hx hb dL_law_1325 rfl (lv_at hl 3 rfl) ?_
  refine l_help (y := h_within) (y2 := m11_within) (js := [xs (i + 1)]) (rest := []) X (by decide +kernel) rfl (Nat.le_of_ble_eq_true rfl) h_within_B h_within_L h_within_X hr ct1 dL_law_1326 ⟨(r39_law _ (List.mem_of_getElem? (i := 19) rfl)), (r39_law _ (List.mem_of_getElem? (i := 20) rfl)), (r39_law _ (List.mem_of_getElem? (i := 21) rfl)), (r9_law _ (List.mem_of_getElem? (i := 8) rfl))⟩ ⟨by decide +kernel, by decide +kernel, rfl⟩ ⟨by decide, by decide⟩ hLx hSt h0 hl.1 rfl (Nat.le_of_ble_eq_true rfl) (by omega) (by omega) (fun ad1 H1 locs1 hLx1 hext => ?_)
  have h0a : ad1 0 = x0 := (hext 0 (by omega)).trans h0
  have h6a : ad1 668 = m0 := (hext 668 (by omega)).trans h668
  refine lv_istore hx hb dL_law_1329 hl (by decide) rfl (fun ls hl => ?_)
  have hl : lv_has ls 7 [(5, .int (nn r.1)), (0, .ref b), (1, .ref x0), (2, .ref m0), (3, .ref q), (4, .int (nn i))] := hl
  refine lv_aload_n hx hb dL_law_1331 rfl (lv_at hl 3 rfl) ?_
  refine l_elem (j := 1) (k0 := 1) (k4 := 5) X hLx1.2.2.2 hl rfl rfl hL (by omega) dL_law_1332 dL_law_1333 dL_law_1335 (by decide) dL_law_1336 dL_law_1337 ?_
  refine l_callV (y2 := m12_within) (b0 := 668) (ci := 12) (js := [xs (i + 1)]) (rest := []) X dL_law_1338 kL12_within (r40_law _ (List.mem_of_getElem? (i := 8) rfl)) ⟨by decide, by decide⟩ rfl (by decide) rfl (by decide) hLx1 s1 h6a hl.1 rfl (Nat.le_of_ble_eq_true rfl) ct2 (by omega) (by omega) (fun ad2 H2 locs2 hLx2 hext2 => ?_)
  exact l_cmp (pc := 1341) (off := 3) X hv (Nat.lt_of_le_of_lt hr (by decide)) h12 hLx2 s2 ((hext2 0 (by omega)).trans h0a) ((hext2 668 (by omega)).trans h6a) hl hI2 (by omega) (by omega) (by omega) (by omega) dL_law_1341 dL_law_1343 dL_law_1344 dL_law_1347 dL_law_1349 dL_law_1354 dL_law_1356 dL_law_1359 dL_law_1360 dL_law_1361 dL_law_1362 dL_law_1364 dL_law_1365 dL_law_1366 dL_law_1371 rfl k12_thrown (r10_law _ (List.mem_of_getElem? (i := 7) rfl)) kk
