/-! THE LAW'S OWN METHODS: written by gen/law.py -/
theorem cs_13 : Cond.castable eIA eIA ∈ tables_1 := (t2_tab _ (List.mem_of_getElem? (i := 201) rfl))
theorem cl_13 : Cond.classLink RL 13 eIA ∈ wsL_law := (r9_law _ (List.mem_of_getElem? (i := 10) rfl))
theorem cs_15 : Cond.castable eIS eIS ∈ tables_1 := (t3_tab _ (List.mem_of_getElem? (i := 29) rfl))
theorem cl_15 : Cond.classLink RL 15 eIS ∈ wsL_law := (r9_law _ (List.mem_of_getElem? (i := 11) rfl))
theorem cs_25 : Cond.castable eIO eIO ∈ tables_1 := (t3_tab _ (List.mem_of_getElem? (i := 94) rfl))
theorem cl_25 : Cond.classLink RL 25 eIO ∈ wsL_law := (r12_law _ (List.mem_of_getElem? (i := 8) rfl))
def h_function : Hi := (yL_function, cL_function, 5, [(0, 10, 13, 13), (0, 10, 17, 15)], 7, 112)
theorem h_function_L : HiL h_function 2 5 := by
  intro p l e R s mid args below meth c H locs cells slots Q ls x q js hjs hx hb hl k
  match js, hjs, hl, k with
  | [j0, j1], _, hl, k =>
    have hl : lv_has ls 5 [(0, .ref x), (1, .int j0), (2, .int j1), (3, .ref q)] := hl
    refine lv_aload_n hx hb dL_function_0 rfl (lv_at hl 3 rfl) ?_
    refine lv_iconst (v := 0) hx hb dL_function_1 (by decide) ?_
    refine lv_aload_n hx hb dL_function_2 rfl (lv_at hl 0 rfl) ?_
    refine lv_iload_n hx hb dL_function_3 rfl (lv_at hl 1 rfl) ?_
    refine lv_iload_n hx hb dL_function_4 rfl (lv_at hl 2 rfl) ?_
    exact k
theorem h_function_H0 : HiH h_function 13 1 := by
  intro p l e R s mid args below meth c H locs cells slots Q ls lv q hx hb hl k
  refine lv_astore hx hb dL_function_13 hl (by decide) rfl (fun ls hl => ?_)
  refine lv_iconst (v := nn 1) hx hb dL_function_15 (by decide) ?_
  exact k 16 ls dL_function_16
theorem h_function_H1 : HiH h_function 17 2 := by
  intro p l e R s mid args below meth c H locs cells slots Q ls lv q hx hb hl k
  refine lv_astore hx hb dL_function_17 hl (by decide) rfl (fun ls hl => ?_)
  refine lv_iconst (v := nn 2) hx hb dL_function_19 (by decide) ?_
  exact k 20 ls dL_function_20
theorem h_function_B : HiB h_function m11_function 2 5 21 := ⟨7, 11, dL_function_5, dL_function_8, dL_function_9, dL_function_10, rfl, dL_function_21, dL_function_22, ⟨⟨(r1_law _ (List.mem_of_getElem? (i := 2) rfl)), (r9_law _ (List.mem_of_getElem? (i := 15) rfl)), by decide +kernel⟩, (r9_law _ (List.mem_of_getElem? (i := 13) rfl)), (r9_law _ (List.mem_of_getElem? (i := 14) rfl))⟩, (r9_law _ (List.mem_of_getElem? (i := 12) rfl)), rfl, by decide, by decide⟩
theorem h_function_X : HiX h_function [eIA, eIS] 5 := by
  intro k E hk
  match k, hk with
  | 0, hk =>
    obtain rfl : eIA = E := Option.some.inj hk
    exact ⟨by decide, cs_13, [], ⟨0, 10, 13, 13⟩, [⟨0, 10, 17, 15⟩], rfl, (fun z hz => by cases hz), by decide, by decide, cl_13, h_function_H0⟩
  | 1, hk =>
    obtain rfl : eIS = E := Option.some.inj hk
    exact ⟨by decide, cs_15, [⟨0, 10, 13, 13⟩], ⟨0, 10, 17, 15⟩, [], rfl, (fun z hz => by
      rcases List.mem_cons.mp hz with h | hz
      · rw [h]
        exact ⟨by decide, eIA, by decide, by decide, cl_13⟩
      cases hz), by decide, by decide, cl_15, h_function_H1⟩
  | k + 2, hk => cases hk
def h_name : Hi := (yL_name, cL_name, 4, [(0, 9, 12, 13), (0, 9, 15, 15)], 8, 135)
theorem h_name_L : HiL h_name 1 4 := by
  intro p l e R s mid args below meth c H locs cells slots Q ls x q js hjs hx hb hl k
  match js, hjs, hl, k with
  | [j0], _, hl, k =>
    have hl : lv_has ls 4 [(0, .ref x), (1, .int j0), (2, .ref q)] := hl
    refine lv_aload_n hx hb dL_name_0 rfl (lv_at hl 2 rfl) ?_
    refine lv_iconst (v := 0) hx hb dL_name_1 (by decide) ?_
    refine lv_aload_n hx hb dL_name_2 rfl (lv_at hl 0 rfl) ?_
    refine lv_iload_n hx hb dL_name_3 rfl (lv_at hl 1 rfl) ?_
    exact k
theorem h_name_H0 : HiH h_name 12 1 := by
  intro p l e R s mid args below meth c H locs cells slots Q ls lv q hx hb hl k
  refine lv_astore_n hx hb dL_name_12 rfl hl (by decide) rfl (fun ls hl => ?_)
  refine lv_iconst (v := nn 1) hx hb dL_name_13 (by decide) ?_
  exact k 14 ls dL_name_14
theorem h_name_H1 : HiH h_name 15 2 := by
  intro p l e R s mid args below meth c H locs cells slots Q ls lv q hx hb hl k
  refine lv_astore_n hx hb dL_name_15 rfl hl (by decide) rfl (fun ls hl => ?_)
  refine lv_iconst (v := nn 2) hx hb dL_name_16 (by decide) ?_
  exact k 17 ls dL_name_17
theorem h_name_B : HiB h_name m11_name 1 4 18 := ⟨17, 9, dL_name_4, dL_name_7, dL_name_8, dL_name_9, rfl, dL_name_18, dL_name_19, ⟨⟨(r1_law _ (List.mem_of_getElem? (i := 2) rfl)), (r10_law _ (List.mem_of_getElem? (i := 17) rfl)), by decide +kernel⟩, (r10_law _ (List.mem_of_getElem? (i := 15) rfl)), (r10_law _ (List.mem_of_getElem? (i := 16) rfl))⟩, (r10_law _ (List.mem_of_getElem? (i := 14) rfl)), rfl, by decide, by decide⟩
theorem h_name_X : HiX h_name [eIA, eIS] 4 := by
  intro k E hk
  match k, hk with
  | 0, hk =>
    obtain rfl : eIA = E := Option.some.inj hk
    exact ⟨by decide, cs_13, [], ⟨0, 9, 12, 13⟩, [⟨0, 9, 15, 15⟩], rfl, (fun z hz => by cases hz), by decide, by decide, cl_13, h_name_H0⟩
  | 1, hk =>
    obtain rfl : eIS = E := Option.some.inj hk
    exact ⟨by decide, cs_15, [⟨0, 9, 12, 13⟩], ⟨0, 9, 15, 15⟩, [], rfl, (fun z hz => by
      rcases List.mem_cons.mp hz with h | hz
      · rw [h]
        exact ⟨by decide, eIA, by decide, by decide, cl_13⟩
      cases hz), by decide, by decide, cl_15, h_name_H1⟩
  | k + 2, hk => cases hk
def h_data : Hi := (yL_data, cL_data, 6, [(0, 12, 15, 25), (0, 12, 19, 13), (0, 12, 23, 15)], 8, 139)
theorem h_data_L : HiL h_data 3 7 := by
  intro p l e R s mid args below meth c H locs cells slots Q ls x q js hjs hx hb hl k
  match js, hjs, hl, k with
  | [j0, j1, j2], _, hl, k =>
    have hl : lv_has ls 6 [(0, .ref x), (1, .int j0), (2, .int j1), (3, .int j2), (4, .ref q)] := hl
    refine lv_aload hx hb dL_data_0 (lv_at hl 4 rfl) ?_
    refine lv_iconst (v := 0) hx hb dL_data_2 (by decide) ?_
    refine lv_aload_n hx hb dL_data_3 rfl (lv_at hl 0 rfl) ?_
    refine lv_iload_n hx hb dL_data_4 rfl (lv_at hl 1 rfl) ?_
    refine lv_iload_n hx hb dL_data_5 rfl (lv_at hl 2 rfl) ?_
    refine lv_iload_n hx hb dL_data_6 rfl (lv_at hl 3 rfl) ?_
    exact k
theorem h_data_H0 : HiH h_data 15 1 := by
  intro p l e R s mid args below meth c H locs cells slots Q ls lv q hx hb hl k
  refine lv_astore hx hb dL_data_15 hl (by decide) rfl (fun ls hl => ?_)
  refine lv_iconst (v := nn 1) hx hb dL_data_17 (by decide) ?_
  exact k 18 ls dL_data_18
theorem h_data_H1 : HiH h_data 19 2 := by
  intro p l e R s mid args below meth c H locs cells slots Q ls lv q hx hb hl k
  refine lv_astore hx hb dL_data_19 hl (by decide) rfl (fun ls hl => ?_)
  refine lv_iconst (v := nn 2) hx hb dL_data_21 (by decide) ?_
  exact k 22 ls dL_data_22
theorem h_data_H2 : HiH h_data 23 3 := by
  intro p l e R s mid args below meth c H locs cells slots Q ls lv q hx hb hl k
  refine lv_astore hx hb dL_data_23 hl (by decide) rfl (fun ls hl => ?_)
  refine lv_iconst (v := nn 3) hx hb dL_data_25 (by decide) ?_
  exact k 26 ls dL_data_26
theorem h_data_B : HiB h_data m11_data 3 7 27 := ⟨21, 15, dL_data_7, dL_data_10, dL_data_11, dL_data_12, rfl, dL_data_27, dL_data_28, ⟨⟨(r1_law _ (List.mem_of_getElem? (i := 2) rfl)), (r12_law _ (List.mem_of_getElem? (i := 12) rfl)), by decide +kernel⟩, (r12_law _ (List.mem_of_getElem? (i := 10) rfl)), (r12_law _ (List.mem_of_getElem? (i := 11) rfl))⟩, (r12_law _ (List.mem_of_getElem? (i := 9) rfl)), rfl, by decide, by decide⟩
theorem h_data_X : HiX h_data [eIO, eIA, eIS] 7 := by
  intro k E hk
  match k, hk with
  | 0, hk =>
    obtain rfl : eIO = E := Option.some.inj hk
    exact ⟨by decide, cs_25, [], ⟨0, 12, 15, 25⟩, [⟨0, 12, 19, 13⟩, ⟨0, 12, 23, 15⟩], rfl, (fun z hz => by cases hz), by decide, by decide, cl_25, h_data_H0⟩
  | 1, hk =>
    obtain rfl : eIA = E := Option.some.inj hk
    exact ⟨by decide, cs_13, [⟨0, 12, 15, 25⟩], ⟨0, 12, 19, 13⟩, [⟨0, 12, 23, 15⟩], rfl, (fun z hz => by
      rcases List.mem_cons.mp hz with h | hz
      · rw [h]
        exact ⟨by decide, eIO, by decide, by decide, cl_25⟩
      cases hz), by decide, by decide, cl_13, h_data_H1⟩
  | 2, hk =>
    obtain rfl : eIS = E := Option.some.inj hk
    exact ⟨by decide, cs_15, [⟨0, 12, 15, 25⟩, ⟨0, 12, 19, 13⟩], ⟨0, 12, 23, 15⟩, [], rfl, (fun z hz => by
      rcases List.mem_cons.mp hz with h | hz
      · rw [h]
        exact ⟨by decide, eIO, by decide, by decide, cl_25⟩
      rcases List.mem_cons.mp hz with h | hz
      · rw [h]
        exact ⟨by decide, eIA, by decide, by decide, cl_13⟩
      cases hz), by decide, by decide, cl_15, h_data_H2⟩
  | k + 3, hk => cases hk
def h_call : Hi := (yL_call, cL_call, 6, [(0, 12, 15, 25), (0, 12, 19, 15)], 8, 138)
theorem h_call_L : HiL h_call 3 7 := by
  intro p l e R s mid args below meth c H locs cells slots Q ls x q js hjs hx hb hl k
  match js, hjs, hl, k with
  | [j0, j1, j2], _, hl, k =>
    have hl : lv_has ls 6 [(0, .ref x), (1, .int j0), (2, .int j1), (3, .int j2), (4, .ref q)] := hl
    refine lv_aload hx hb dL_call_0 (lv_at hl 4 rfl) ?_
    refine lv_iconst (v := 0) hx hb dL_call_2 (by decide) ?_
    refine lv_aload_n hx hb dL_call_3 rfl (lv_at hl 0 rfl) ?_
    refine lv_iload_n hx hb dL_call_4 rfl (lv_at hl 1 rfl) ?_
    refine lv_iload_n hx hb dL_call_5 rfl (lv_at hl 2 rfl) ?_
    refine lv_iload_n hx hb dL_call_6 rfl (lv_at hl 3 rfl) ?_
    exact k
theorem h_call_H0 : HiH h_call 15 1 := by
  intro p l e R s mid args below meth c H locs cells slots Q ls lv q hx hb hl k
  refine lv_astore hx hb dL_call_15 hl (by decide) rfl (fun ls hl => ?_)
  refine lv_iconst (v := nn 1) hx hb dL_call_17 (by decide) ?_
  exact k 18 ls dL_call_18
theorem h_call_H1 : HiH h_call 19 2 := by
  intro p l e R s mid args below meth c H locs cells slots Q ls lv q hx hb hl k
  refine lv_astore hx hb dL_call_19 hl (by decide) rfl (fun ls hl => ?_)
  refine lv_iconst (v := nn 2) hx hb dL_call_21 (by decide) ?_
  exact k 22 ls dL_call_22
theorem h_call_B : HiB h_call m11_call 3 7 23 := ⟨27, 11, dL_call_7, dL_call_10, dL_call_11, dL_call_12, rfl, dL_call_23, dL_call_24, ⟨⟨(r1_law _ (List.mem_of_getElem? (i := 2) rfl)), (r13_law _ (List.mem_of_getElem? (i := 16) rfl)), by decide +kernel⟩, (r13_law _ (List.mem_of_getElem? (i := 14) rfl)), (r13_law _ (List.mem_of_getElem? (i := 15) rfl))⟩, (r13_law _ (List.mem_of_getElem? (i := 13) rfl)), rfl, by decide, by decide⟩
theorem h_call_X : HiX h_call [eIO, eIS] 7 := by
  intro k E hk
  match k, hk with
  | 0, hk =>
    obtain rfl : eIO = E := Option.some.inj hk
    exact ⟨by decide, cs_25, [], ⟨0, 12, 15, 25⟩, [⟨0, 12, 19, 15⟩], rfl, (fun z hz => by cases hz), by decide, by decide, cl_25, h_call_H0⟩
  | 1, hk =>
    obtain rfl : eIS = E := Option.some.inj hk
    exact ⟨by decide, cs_15, [⟨0, 12, 15, 25⟩], ⟨0, 12, 19, 15⟩, [], rfl, (fun z hz => by
      rcases List.mem_cons.mp hz with h | hz
      · rw [h]
        exact ⟨by decide, eIO, by decide, by decide, cl_25⟩
      cases hz), by decide, by decide, cl_15, h_call_H1⟩
  | k + 2, hk => cases hk
def h_either : Hi := (yL_either, cL_either, 5, [(0, 10, 13, 25), (0, 10, 17, 15)], 8, 136)
theorem h_either_L : HiL h_either 2 5 := by
  intro p l e R s mid args below meth c H locs cells slots Q ls x q js hjs hx hb hl k
  match js, hjs, hl, k with
  | [j0, j1], _, hl, k =>
    have hl : lv_has ls 5 [(0, .ref x), (1, .int j0), (2, .int j1), (3, .ref q)] := hl
    refine lv_aload_n hx hb dL_either_0 rfl (lv_at hl 3 rfl) ?_
    refine lv_iconst (v := 0) hx hb dL_either_1 (by decide) ?_
    refine lv_aload_n hx hb dL_either_2 rfl (lv_at hl 0 rfl) ?_
    refine lv_iload_n hx hb dL_either_3 rfl (lv_at hl 1 rfl) ?_
    refine lv_iload_n hx hb dL_either_4 rfl (lv_at hl 2 rfl) ?_
    exact k
theorem h_either_H0 : HiH h_either 13 1 := by
  intro p l e R s mid args below meth c H locs cells slots Q ls lv q hx hb hl k
  refine lv_astore hx hb dL_either_13 hl (by decide) rfl (fun ls hl => ?_)
  refine lv_iconst (v := nn 1) hx hb dL_either_15 (by decide) ?_
  exact k 16 ls dL_either_16
theorem h_either_H1 : HiH h_either 17 2 := by
  intro p l e R s mid args below meth c H locs cells slots Q ls lv q hx hb hl k
  refine lv_astore hx hb dL_either_17 hl (by decide) rfl (fun ls hl => ?_)
  refine lv_iconst (v := nn 2) hx hb dL_either_19 (by decide) ?_
  exact k 20 ls dL_either_20
theorem h_either_B : HiB h_either m11_either 2 5 21 := ⟨30, 11, dL_either_5, dL_either_8, dL_either_9, dL_either_10, rfl, dL_either_21, dL_either_22, ⟨⟨(r1_law _ (List.mem_of_getElem? (i := 2) rfl)), (r14_law _ (List.mem_of_getElem? (i := 14) rfl)), by decide +kernel⟩, (r14_law _ (List.mem_of_getElem? (i := 12) rfl)), (r14_law _ (List.mem_of_getElem? (i := 13) rfl))⟩, (r14_law _ (List.mem_of_getElem? (i := 11) rfl)), rfl, by decide, by decide⟩
theorem h_either_X : HiX h_either [eIO, eIS] 5 := by
  intro k E hk
  match k, hk with
  | 0, hk =>
    obtain rfl : eIO = E := Option.some.inj hk
    exact ⟨by decide, cs_25, [], ⟨0, 10, 13, 25⟩, [⟨0, 10, 17, 15⟩], rfl, (fun z hz => by cases hz), by decide, by decide, cl_25, h_either_H0⟩
  | 1, hk =>
    obtain rfl : eIS = E := Option.some.inj hk
    exact ⟨by decide, cs_15, [⟨0, 10, 13, 25⟩], ⟨0, 10, 17, 15⟩, [], rfl, (fun z hz => by
      rcases List.mem_cons.mp hz with h | hz
      · rw [h]
        exact ⟨by decide, eIO, by decide, by decide, cl_25⟩
      cases hz), by decide, by decide, cl_15, h_either_H1⟩
  | k + 2, hk => cases hk
def h_same : Hi := (yL_same, cL_same, 5, [(0, 10, 13, 25), (0, 10, 17, 15)], 8, 136)
theorem h_same_L : HiL h_same 2 5 := by
  intro p l e R s mid args below meth c H locs cells slots Q ls x q js hjs hx hb hl k
  match js, hjs, hl, k with
  | [j0, j1], _, hl, k =>
    have hl : lv_has ls 5 [(0, .ref x), (1, .int j0), (2, .int j1), (3, .ref q)] := hl
    refine lv_aload_n hx hb dL_same_0 rfl (lv_at hl 3 rfl) ?_
    refine lv_iconst (v := 0) hx hb dL_same_1 (by decide) ?_
    refine lv_aload_n hx hb dL_same_2 rfl (lv_at hl 0 rfl) ?_
    refine lv_iload_n hx hb dL_same_3 rfl (lv_at hl 1 rfl) ?_
    refine lv_iload_n hx hb dL_same_4 rfl (lv_at hl 2 rfl) ?_
    exact k
theorem h_same_H0 : HiH h_same 13 1 := by
  intro p l e R s mid args below meth c H locs cells slots Q ls lv q hx hb hl k
  refine lv_astore hx hb dL_same_13 hl (by decide) rfl (fun ls hl => ?_)
  refine lv_iconst (v := nn 1) hx hb dL_same_15 (by decide) ?_
  exact k 16 ls dL_same_16
theorem h_same_H1 : HiH h_same 17 2 := by
  intro p l e R s mid args below meth c H locs cells slots Q ls lv q hx hb hl k
  refine lv_astore hx hb dL_same_17 hl (by decide) rfl (fun ls hl => ?_)
  refine lv_iconst (v := nn 2) hx hb dL_same_19 (by decide) ?_
  exact k 20 ls dL_same_20
theorem h_same_B : HiB h_same m11_same 2 5 21 := ⟨34, 11, dL_same_5, dL_same_8, dL_same_9, dL_same_10, rfl, dL_same_21, dL_same_22, ⟨⟨(r1_law _ (List.mem_of_getElem? (i := 2) rfl)), (r15_law _ (List.mem_of_getElem? (i := 5) rfl)), by decide +kernel⟩, (r15_law _ (List.mem_of_getElem? (i := 3) rfl)), (r15_law _ (List.mem_of_getElem? (i := 4) rfl))⟩, (r15_law _ (List.mem_of_getElem? (i := 2) rfl)), rfl, by decide, by decide⟩
theorem h_same_X : HiX h_same [eIO, eIS] 5 := by
  intro k E hk
  match k, hk with
  | 0, hk =>
    obtain rfl : eIO = E := Option.some.inj hk
    exact ⟨by decide, cs_25, [], ⟨0, 10, 13, 25⟩, [⟨0, 10, 17, 15⟩], rfl, (fun z hz => by cases hz), by decide, by decide, cl_25, h_same_H0⟩
  | 1, hk =>
    obtain rfl : eIS = E := Option.some.inj hk
    exact ⟨by decide, cs_15, [⟨0, 10, 13, 25⟩], ⟨0, 10, 17, 15⟩, [], rfl, (fun z hz => by
      rcases List.mem_cons.mp hz with h | hz
      · rw [h]
        exact ⟨by decide, eIO, by decide, by decide, cl_25⟩
      cases hz), by decide, by decide, cl_15, h_same_H1⟩
  | k + 2, hk => cases hk
def h_unlike : Hi := (yL_unlike, cL_unlike, 5, [(0, 10, 13, 25), (0, 10, 17, 15)], 8, 136)
theorem h_unlike_L : HiL h_unlike 2 5 := by
  intro p l e R s mid args below meth c H locs cells slots Q ls x q js hjs hx hb hl k
  match js, hjs, hl, k with
  | [j0, j1], _, hl, k =>
    have hl : lv_has ls 5 [(0, .ref x), (1, .int j0), (2, .int j1), (3, .ref q)] := hl
    refine lv_aload_n hx hb dL_unlike_0 rfl (lv_at hl 3 rfl) ?_
    refine lv_iconst (v := 0) hx hb dL_unlike_1 (by decide) ?_
    refine lv_aload_n hx hb dL_unlike_2 rfl (lv_at hl 0 rfl) ?_
    refine lv_iload_n hx hb dL_unlike_3 rfl (lv_at hl 1 rfl) ?_
    refine lv_iload_n hx hb dL_unlike_4 rfl (lv_at hl 2 rfl) ?_
    exact k
theorem h_unlike_H0 : HiH h_unlike 13 1 := by
  intro p l e R s mid args below meth c H locs cells slots Q ls lv q hx hb hl k
  refine lv_astore hx hb dL_unlike_13 hl (by decide) rfl (fun ls hl => ?_)
  refine lv_iconst (v := nn 1) hx hb dL_unlike_15 (by decide) ?_
  exact k 16 ls dL_unlike_16
theorem h_unlike_H1 : HiH h_unlike 17 2 := by
  intro p l e R s mid args below meth c H locs cells slots Q ls lv q hx hb hl k
  refine lv_astore hx hb dL_unlike_17 hl (by decide) rfl (fun ls hl => ?_)
  refine lv_iconst (v := nn 2) hx hb dL_unlike_19 (by decide) ?_
  exact k 20 ls dL_unlike_20
theorem h_unlike_B : HiB h_unlike m11_unlike 2 5 21 := ⟨37, 11, dL_unlike_5, dL_unlike_8, dL_unlike_9, dL_unlike_10, rfl, dL_unlike_21, dL_unlike_22, ⟨⟨(r1_law _ (List.mem_of_getElem? (i := 2) rfl)), (r15_law _ (List.mem_of_getElem? (i := 16) rfl)), by decide +kernel⟩, (r15_law _ (List.mem_of_getElem? (i := 14) rfl)), (r15_law _ (List.mem_of_getElem? (i := 15) rfl))⟩, (r15_law _ (List.mem_of_getElem? (i := 13) rfl)), rfl, by decide, by decide⟩
theorem h_unlike_X : HiX h_unlike [eIO, eIS] 5 := by
  intro k E hk
  match k, hk with
  | 0, hk =>
    obtain rfl : eIO = E := Option.some.inj hk
    exact ⟨by decide, cs_25, [], ⟨0, 10, 13, 25⟩, [⟨0, 10, 17, 15⟩], rfl, (fun z hz => by cases hz), by decide, by decide, cl_25, h_unlike_H0⟩
  | 1, hk =>
    obtain rfl : eIS = E := Option.some.inj hk
    exact ⟨by decide, cs_15, [⟨0, 10, 13, 25⟩], ⟨0, 10, 17, 15⟩, [], rfl, (fun z hz => by
      rcases List.mem_cons.mp hz with h | hz
      · rw [h]
        exact ⟨by decide, eIO, by decide, by decide, cl_25⟩
      cases hz), by decide, by decide, cl_15, h_unlike_H1⟩
  | k + 2, hk => cases hk
def h_some : Hi := (yL_some, cL_some, 4, [(0, 9, 12, 25), (0, 9, 15, 15)], 8, 135)
theorem h_some_L : HiL h_some 1 4 := by
  intro p l e R s mid args below meth c H locs cells slots Q ls x q js hjs hx hb hl k
  match js, hjs, hl, k with
  | [j0], _, hl, k =>
    have hl : lv_has ls 4 [(0, .ref x), (1, .int j0), (2, .ref q)] := hl
    refine lv_aload_n hx hb dL_some_0 rfl (lv_at hl 2 rfl) ?_
    refine lv_iconst (v := 0) hx hb dL_some_1 (by decide) ?_
    refine lv_aload_n hx hb dL_some_2 rfl (lv_at hl 0 rfl) ?_
    refine lv_iload_n hx hb dL_some_3 rfl (lv_at hl 1 rfl) ?_
    exact k
theorem h_some_H0 : HiH h_some 12 1 := by
  intro p l e R s mid args below meth c H locs cells slots Q ls lv q hx hb hl k
  refine lv_astore_n hx hb dL_some_12 rfl hl (by decide) rfl (fun ls hl => ?_)
  refine lv_iconst (v := nn 1) hx hb dL_some_13 (by decide) ?_
  exact k 14 ls dL_some_14
theorem h_some_H1 : HiH h_some 15 2 := by
  intro p l e R s mid args below meth c H locs cells slots Q ls lv q hx hb hl k
  refine lv_astore_n hx hb dL_some_15 rfl hl (by decide) rfl (fun ls hl => ?_)
  refine lv_iconst (v := nn 2) hx hb dL_some_16 (by decide) ?_
  exact k 17 ls dL_some_17
theorem h_some_B : HiB h_some m11_some 1 4 18 := ⟨40, 9, dL_some_4, dL_some_7, dL_some_8, dL_some_9, rfl, dL_some_18, dL_some_19, ⟨⟨(r1_law _ (List.mem_of_getElem? (i := 2) rfl)), (r16_law _ (List.mem_of_getElem? (i := 3) rfl)), by decide +kernel⟩, (r16_law _ (List.mem_of_getElem? (i := 1) rfl)), (r16_law _ (List.mem_of_getElem? (i := 2) rfl))⟩, (r16_law _ (List.mem_of_getElem? (i := 0) rfl)), rfl, by decide, by decide⟩
theorem h_some_X : HiX h_some [eIO, eIS] 4 := by
  intro k E hk
  match k, hk with
  | 0, hk =>
    obtain rfl : eIO = E := Option.some.inj hk
    exact ⟨by decide, cs_25, [], ⟨0, 9, 12, 25⟩, [⟨0, 9, 15, 15⟩], rfl, (fun z hz => by cases hz), by decide, by decide, cl_25, h_some_H0⟩
  | 1, hk =>
    obtain rfl : eIS = E := Option.some.inj hk
    exact ⟨by decide, cs_15, [⟨0, 9, 12, 25⟩], ⟨0, 9, 15, 15⟩, [], rfl, (fun z hz => by
      rcases List.mem_cons.mp hz with h | hz
      · rw [h]
        exact ⟨by decide, eIO, by decide, by decide, cl_25⟩
      cases hz), by decide, by decide, cl_15, h_some_H1⟩
  | k + 2, hk => cases hk
def h_rule : Hi := (yL_rule, cL_rule, 7, [(0, 14, 17, 25), (0, 14, 21, 13), (0, 14, 25, 15)], 8, 139)
theorem h_rule_L : HiL h_rule 4 9 := by
  intro p l e R s mid args below meth c H locs cells slots Q ls x q js hjs hx hb hl k
  match js, hjs, hl, k with
  | [j0, j1, j2, j3], _, hl, k =>
    have hl : lv_has ls 7 [(0, .ref x), (1, .int j0), (2, .int j1), (3, .int j2), (4, .int j3), (5, .ref q)] := hl
    refine lv_aload hx hb dL_rule_0 (lv_at hl 5 rfl) ?_
    refine lv_iconst (v := 0) hx hb dL_rule_2 (by decide) ?_
    refine lv_aload_n hx hb dL_rule_3 rfl (lv_at hl 0 rfl) ?_
    refine lv_iload_n hx hb dL_rule_4 rfl (lv_at hl 1 rfl) ?_
    refine lv_iload_n hx hb dL_rule_5 rfl (lv_at hl 2 rfl) ?_
    refine lv_iload_n hx hb dL_rule_6 rfl (lv_at hl 3 rfl) ?_
    refine lv_iload hx hb dL_rule_7 (lv_at hl 4 rfl) ?_
    exact k
theorem h_rule_H0 : HiH h_rule 17 1 := by
  intro p l e R s mid args below meth c H locs cells slots Q ls lv q hx hb hl k
  refine lv_astore hx hb dL_rule_17 hl (by decide) rfl (fun ls hl => ?_)
  refine lv_iconst (v := nn 1) hx hb dL_rule_19 (by decide) ?_
  exact k 20 ls dL_rule_20
theorem h_rule_H1 : HiH h_rule 21 2 := by
  intro p l e R s mid args below meth c H locs cells slots Q ls lv q hx hb hl k
  refine lv_astore hx hb dL_rule_21 hl (by decide) rfl (fun ls hl => ?_)
  refine lv_iconst (v := nn 2) hx hb dL_rule_23 (by decide) ?_
  exact k 24 ls dL_rule_24
theorem h_rule_H2 : HiH h_rule 25 3 := by
  intro p l e R s mid args below meth c H locs cells slots Q ls lv q hx hb hl k
  refine lv_astore hx hb dL_rule_25 hl (by decide) rfl (fun ls hl => ?_)
  refine lv_iconst (v := nn 3) hx hb dL_rule_27 (by decide) ?_
  exact k 28 ls dL_rule_28
theorem h_rule_B : HiB h_rule m11_rule 4 9 29 := ⟨43, 15, dL_rule_9, dL_rule_12, dL_rule_13, dL_rule_14, rfl, dL_rule_29, dL_rule_30, ⟨⟨(r1_law _ (List.mem_of_getElem? (i := 2) rfl)), (r16_law _ (List.mem_of_getElem? (i := 22) rfl)), by decide +kernel⟩, (r16_law _ (List.mem_of_getElem? (i := 20) rfl)), (r16_law _ (List.mem_of_getElem? (i := 21) rfl))⟩, (r16_law _ (List.mem_of_getElem? (i := 19) rfl)), rfl, by decide, by decide⟩
theorem h_rule_X : HiX h_rule [eIO, eIA, eIS] 9 := by
  intro k E hk
  match k, hk with
  | 0, hk =>
    obtain rfl : eIO = E := Option.some.inj hk
    exact ⟨by decide, cs_25, [], ⟨0, 14, 17, 25⟩, [⟨0, 14, 21, 13⟩, ⟨0, 14, 25, 15⟩], rfl, (fun z hz => by cases hz), by decide, by decide, cl_25, h_rule_H0⟩
  | 1, hk =>
    obtain rfl : eIA = E := Option.some.inj hk
    exact ⟨by decide, cs_13, [⟨0, 14, 17, 25⟩], ⟨0, 14, 21, 13⟩, [⟨0, 14, 25, 15⟩], rfl, (fun z hz => by
      rcases List.mem_cons.mp hz with h | hz
      · rw [h]
        exact ⟨by decide, eIO, by decide, by decide, cl_25⟩
      cases hz), by decide, by decide, cl_13, h_rule_H1⟩
  | 2, hk =>
    obtain rfl : eIS = E := Option.some.inj hk
    exact ⟨by decide, cs_15, [⟨0, 14, 17, 25⟩, ⟨0, 14, 21, 13⟩], ⟨0, 14, 25, 15⟩, [], rfl, (fun z hz => by
      rcases List.mem_cons.mp hz with h | hz
      · rw [h]
        exact ⟨by decide, eIO, by decide, by decide, cl_25⟩
      rcases List.mem_cons.mp hz with h | hz
      · rw [h]
        exact ⟨by decide, eIA, by decide, by decide, cl_13⟩
      cases hz), by decide, by decide, cl_15, h_rule_H2⟩
  | k + 3, hk => cases hk
def h_unrule : Hi := (yL_unrule, cL_unrule, 4, [(0, 9, 12, 25), (0, 9, 15, 15)], 8, 132)
theorem h_unrule_L : HiL h_unrule 1 4 := by
  intro p l e R s mid args below meth c H locs cells slots Q ls x q js hjs hx hb hl k
  match js, hjs, hl, k with
  | [j0], _, hl, k =>
    have hl : lv_has ls 4 [(0, .ref x), (1, .int j0), (2, .ref q)] := hl
    refine lv_aload_n hx hb dL_unrule_0 rfl (lv_at hl 2 rfl) ?_
    refine lv_iconst (v := 0) hx hb dL_unrule_1 (by decide) ?_
    refine lv_aload_n hx hb dL_unrule_2 rfl (lv_at hl 0 rfl) ?_
    refine lv_iload_n hx hb dL_unrule_3 rfl (lv_at hl 1 rfl) ?_
    exact k
theorem h_unrule_H0 : HiH h_unrule 12 1 := by
  intro p l e R s mid args below meth c H locs cells slots Q ls lv q hx hb hl k
  refine lv_astore_n hx hb dL_unrule_12 rfl hl (by decide) rfl (fun ls hl => ?_)
  refine lv_iconst (v := nn 1) hx hb dL_unrule_13 (by decide) ?_
  exact k 14 ls dL_unrule_14
theorem h_unrule_H1 : HiH h_unrule 15 2 := by
  intro p l e R s mid args below meth c H locs cells slots Q ls lv q hx hb hl k
  refine lv_astore_n hx hb dL_unrule_15 rfl hl (by decide) rfl (fun ls hl => ?_)
  refine lv_iconst (v := nn 2) hx hb dL_unrule_16 (by decide) ?_
  exact k 17 ls dL_unrule_17
theorem h_unrule_B : HiB h_unrule m11_unrule 1 4 18 := ⟨47, 9, dL_unrule_4, dL_unrule_7, dL_unrule_8, dL_unrule_9, rfl, dL_unrule_18, dL_unrule_19, ⟨⟨(r1_law _ (List.mem_of_getElem? (i := 2) rfl)), (r19_law _ (List.mem_of_getElem? (i := 3) rfl)), by decide +kernel⟩, (r19_law _ (List.mem_of_getElem? (i := 1) rfl)), (r19_law _ (List.mem_of_getElem? (i := 2) rfl))⟩, (r19_law _ (List.mem_of_getElem? (i := 0) rfl)), rfl, by decide, by decide⟩
theorem h_unrule_X : HiX h_unrule [eIO, eIS] 4 := by
  intro k E hk
  match k, hk with
  | 0, hk =>
    obtain rfl : eIO = E := Option.some.inj hk
    exact ⟨by decide, cs_25, [], ⟨0, 9, 12, 25⟩, [⟨0, 9, 15, 15⟩], rfl, (fun z hz => by cases hz), by decide, by decide, cl_25, h_unrule_H0⟩
  | 1, hk =>
    obtain rfl : eIS = E := Option.some.inj hk
    exact ⟨by decide, cs_15, [⟨0, 9, 12, 25⟩], ⟨0, 9, 15, 15⟩, [], rfl, (fun z hz => by
      rcases List.mem_cons.mp hz with h | hz
      · rw [h]
        exact ⟨by decide, eIO, by decide, by decide, cl_25⟩
      cases hz), by decide, by decide, cl_15, h_unrule_H1⟩
  | k + 2, hk => cases hk
def h_goal : Hi := (yL_goal, cL_goal, 4, [(0, 9, 12, 25)], 8, 134)
theorem h_goal_L : HiL h_goal 1 4 := by
  intro p l e R s mid args below meth c H locs cells slots Q ls x q js hjs hx hb hl k
  match js, hjs, hl, k with
  | [j0], _, hl, k =>
    have hl : lv_has ls 4 [(0, .ref x), (1, .int j0), (2, .ref q)] := hl
    refine lv_aload_n hx hb dL_goal_0 rfl (lv_at hl 2 rfl) ?_
    refine lv_iconst (v := 0) hx hb dL_goal_1 (by decide) ?_
    refine lv_aload_n hx hb dL_goal_2 rfl (lv_at hl 0 rfl) ?_
    refine lv_iload_n hx hb dL_goal_3 rfl (lv_at hl 1 rfl) ?_
    exact k
theorem h_goal_H0 : HiH h_goal 12 1 := by
  intro p l e R s mid args below meth c H locs cells slots Q ls lv q hx hb hl k
  refine lv_astore_n hx hb dL_goal_12 rfl hl (by decide) rfl (fun ls hl => ?_)
  refine lv_iconst (v := nn 1) hx hb dL_goal_13 (by decide) ?_
  exact k 14 ls dL_goal_14
theorem h_goal_B : HiB h_goal m11_goal 1 4 15 := ⟨50, 6, dL_goal_4, dL_goal_7, dL_goal_8, dL_goal_9, rfl, dL_goal_15, dL_goal_16, ⟨⟨(r1_law _ (List.mem_of_getElem? (i := 2) rfl)), (r22_law _ (List.mem_of_getElem? (i := 5) rfl)), by decide +kernel⟩, (r22_law _ (List.mem_of_getElem? (i := 3) rfl)), (r22_law _ (List.mem_of_getElem? (i := 4) rfl))⟩, (r22_law _ (List.mem_of_getElem? (i := 2) rfl)), rfl, by decide, by decide⟩
theorem h_goal_X : HiX h_goal [eIO] 4 := by
  intro k E hk
  match k, hk with
  | 0, hk =>
    obtain rfl : eIO = E := Option.some.inj hk
    exact ⟨by decide, cs_25, [], ⟨0, 9, 12, 25⟩, [], rfl, (fun z hz => by cases hz), by decide, by decide, cl_25, h_goal_H0⟩
  | k + 1, hk => cases hk
def h_search : Hi := (yL_search, cL_search, 5, [(0, 10, 13, 13), (0, 10, 17, 15)], 8, 201)
theorem h_search_L : HiL h_search 2 5 := by
  intro p l e R s mid args below meth c H locs cells slots Q ls x q js hjs hx hb hl k
  match js, hjs, hl, k with
  | [j0, j1], _, hl, k =>
    have hl : lv_has ls 5 [(0, .ref x), (1, .int j0), (2, .int j1), (3, .ref q)] := hl
    refine lv_aload_n hx hb dL_search_0 rfl (lv_at hl 3 rfl) ?_
    refine lv_iconst (v := 0) hx hb dL_search_1 (by decide) ?_
    refine lv_aload_n hx hb dL_search_2 rfl (lv_at hl 0 rfl) ?_
    refine lv_iload_n hx hb dL_search_3 rfl (lv_at hl 1 rfl) ?_
    refine lv_iload_n hx hb dL_search_4 rfl (lv_at hl 2 rfl) ?_
    exact k
theorem h_search_H0 : HiH h_search 13 1 := by
  intro p l e R s mid args below meth c H locs cells slots Q ls lv q hx hb hl k
  refine lv_astore hx hb dL_search_13 hl (by decide) rfl (fun ls hl => ?_)
  refine lv_iconst (v := nn 1) hx hb dL_search_15 (by decide) ?_
  exact k 16 ls dL_search_16
theorem h_search_H1 : HiH h_search 17 2 := by
  intro p l e R s mid args below meth c H locs cells slots Q ls lv q hx hb hl k
  refine lv_astore hx hb dL_search_17 hl (by decide) rfl (fun ls hl => ?_)
  refine lv_iconst (v := nn 2) hx hb dL_search_19 (by decide) ?_
  exact k 20 ls dL_search_20
theorem h_search_B : HiB h_search m11_search 2 5 21 := ⟨53, 11, dL_search_5, dL_search_8, dL_search_9, dL_search_10, rfl, dL_search_21, dL_search_22, ⟨⟨(r1_law _ (List.mem_of_getElem? (i := 2) rfl)), (r22_law _ (List.mem_of_getElem? (i := 18) rfl)), by decide +kernel⟩, (r22_law _ (List.mem_of_getElem? (i := 16) rfl)), (r22_law _ (List.mem_of_getElem? (i := 17) rfl))⟩, (r22_law _ (List.mem_of_getElem? (i := 15) rfl)), rfl, by decide, by decide⟩
theorem h_search_X : HiX h_search [eIA, eIS] 5 := by
  intro k E hk
  match k, hk with
  | 0, hk =>
    obtain rfl : eIA = E := Option.some.inj hk
    exact ⟨by decide, cs_13, [], ⟨0, 10, 13, 13⟩, [⟨0, 10, 17, 15⟩], rfl, (fun z hz => by cases hz), by decide, by decide, cl_13, h_search_H0⟩
  | 1, hk =>
    obtain rfl : eIS = E := Option.some.inj hk
    exact ⟨by decide, cs_15, [⟨0, 10, 13, 13⟩], ⟨0, 10, 17, 15⟩, [], rfl, (fun z hz => by
      rcases List.mem_cons.mp hz with h | hz
      · rw [h]
        exact ⟨by decide, eIA, by decide, by decide, cl_13⟩
      cases hz), by decide, by decide, cl_15, h_search_H1⟩
  | k + 2, hk => cases hk
def h_count : Hi := (yL_count, cL_count, 4, [(0, 9, 12, 13)], 7, 111)
theorem h_count_L : HiL h_count 1 4 := by
  intro p l e R s mid args below meth c H locs cells slots Q ls x q js hjs hx hb hl k
  match js, hjs, hl, k with
  | [j0], _, hl, k =>
    have hl : lv_has ls 4 [(0, .ref x), (1, .int j0), (2, .ref q)] := hl
    refine lv_aload_n hx hb dL_count_0 rfl (lv_at hl 2 rfl) ?_
    refine lv_iconst (v := 0) hx hb dL_count_1 (by decide) ?_
    refine lv_aload_n hx hb dL_count_2 rfl (lv_at hl 0 rfl) ?_
    refine lv_iload_n hx hb dL_count_3 rfl (lv_at hl 1 rfl) ?_
    exact k
theorem h_count_H0 : HiH h_count 12 1 := by
  intro p l e R s mid args below meth c H locs cells slots Q ls lv q hx hb hl k
  refine lv_astore_n hx hb dL_count_12 rfl hl (by decide) rfl (fun ls hl => ?_)
  refine lv_iconst (v := nn 1) hx hb dL_count_13 (by decide) ?_
  exact k 14 ls dL_count_14
theorem h_count_B : HiB h_count m11_count 1 4 15 := ⟨56, 6, dL_count_4, dL_count_7, dL_count_8, dL_count_9, rfl, dL_count_15, dL_count_16, ⟨⟨(r1_law _ (List.mem_of_getElem? (i := 2) rfl)), (r37_law _ (List.mem_of_getElem? (i := 3) rfl)), by decide +kernel⟩, (r37_law _ (List.mem_of_getElem? (i := 1) rfl)), (r37_law _ (List.mem_of_getElem? (i := 2) rfl))⟩, (r37_law _ (List.mem_of_getElem? (i := 0) rfl)), rfl, by decide, by decide⟩
theorem h_count_X : HiX h_count [eIA] 4 := by
  intro k E hk
  match k, hk with
  | 0, hk =>
    obtain rfl : eIA = E := Option.some.inj hk
    exact ⟨by decide, cs_13, [], ⟨0, 9, 12, 13⟩, [], rfl, (fun z hz => by cases hz), by decide, by decide, cl_13, h_count_H0⟩
  | k + 1, hk => cases hk
def h_part : Hi := (yL_part, cL_part, 5, [(0, 10, 13, 25)], 8, 134)
theorem h_part_L : HiL h_part 2 5 := by
  intro p l e R s mid args below meth c H locs cells slots Q ls x q js hjs hx hb hl k
  match js, hjs, hl, k with
  | [j0, j1], _, hl, k =>
    have hl : lv_has ls 5 [(0, .ref x), (1, .int j0), (2, .int j1), (3, .ref q)] := hl
    refine lv_aload_n hx hb dL_part_0 rfl (lv_at hl 3 rfl) ?_
    refine lv_iconst (v := 0) hx hb dL_part_1 (by decide) ?_
    refine lv_aload_n hx hb dL_part_2 rfl (lv_at hl 0 rfl) ?_
    refine lv_iload_n hx hb dL_part_3 rfl (lv_at hl 1 rfl) ?_
    refine lv_iload_n hx hb dL_part_4 rfl (lv_at hl 2 rfl) ?_
    exact k
theorem h_part_H0 : HiH h_part 13 1 := by
  intro p l e R s mid args below meth c H locs cells slots Q ls lv q hx hb hl k
  refine lv_astore hx hb dL_part_13 hl (by decide) rfl (fun ls hl => ?_)
  refine lv_iconst (v := nn 1) hx hb dL_part_15 (by decide) ?_
  exact k 16 ls dL_part_16
theorem h_part_B : HiB h_part m11_part 2 5 17 := ⟨59, 7, dL_part_5, dL_part_8, dL_part_9, dL_part_10, rfl, dL_part_17, dL_part_18, ⟨⟨(r1_law _ (List.mem_of_getElem? (i := 2) rfl)), (r37_law _ (List.mem_of_getElem? (i := 14) rfl)), by decide +kernel⟩, (r37_law _ (List.mem_of_getElem? (i := 12) rfl)), (r37_law _ (List.mem_of_getElem? (i := 13) rfl))⟩, (r37_law _ (List.mem_of_getElem? (i := 11) rfl)), rfl, by decide, by decide⟩
theorem h_part_X : HiX h_part [eIO] 5 := by
  intro k E hk
  match k, hk with
  | 0, hk =>
    obtain rfl : eIO = E := Option.some.inj hk
    exact ⟨by decide, cs_25, [], ⟨0, 10, 13, 25⟩, [], rfl, (fun z hz => by cases hz), by decide, by decide, cl_25, h_part_H0⟩
  | k + 1, hk => cases hk
def h_bound : Hi := (yL_bound, cL_bound, 6, [(0, 12, 15, 25)], 8, 135)
theorem h_bound_L : HiL h_bound 3 7 := by
  intro p l e R s mid args below meth c H locs cells slots Q ls x q js hjs hx hb hl k
  match js, hjs, hl, k with
  | [j0, j1, j2], _, hl, k =>
    have hl : lv_has ls 6 [(0, .ref x), (1, .int j0), (2, .int j1), (3, .int j2), (4, .ref q)] := hl
    refine lv_aload hx hb dL_bound_0 (lv_at hl 4 rfl) ?_
    refine lv_iconst (v := 0) hx hb dL_bound_2 (by decide) ?_
    refine lv_aload_n hx hb dL_bound_3 rfl (lv_at hl 0 rfl) ?_
    refine lv_iload_n hx hb dL_bound_4 rfl (lv_at hl 1 rfl) ?_
    refine lv_iload_n hx hb dL_bound_5 rfl (lv_at hl 2 rfl) ?_
    refine lv_iload_n hx hb dL_bound_6 rfl (lv_at hl 3 rfl) ?_
    exact k
theorem h_bound_H0 : HiH h_bound 15 1 := by
  intro p l e R s mid args below meth c H locs cells slots Q ls lv q hx hb hl k
  refine lv_astore hx hb dL_bound_15 hl (by decide) rfl (fun ls hl => ?_)
  refine lv_iconst (v := nn 1) hx hb dL_bound_17 (by decide) ?_
  exact k 18 ls dL_bound_18
theorem h_bound_B : HiB h_bound m11_bound 3 7 19 := ⟨62, 7, dL_bound_7, dL_bound_10, dL_bound_11, dL_bound_12, rfl, dL_bound_19, dL_bound_20, ⟨⟨(r1_law _ (List.mem_of_getElem? (i := 2) rfl)), (r38_law _ (List.mem_of_getElem? (i := 16) rfl)), by decide +kernel⟩, (r38_law _ (List.mem_of_getElem? (i := 14) rfl)), (r38_law _ (List.mem_of_getElem? (i := 15) rfl))⟩, (r38_law _ (List.mem_of_getElem? (i := 13) rfl)), rfl, by decide, by decide⟩
theorem h_bound_X : HiX h_bound [eIO] 7 := by
  intro k E hk
  match k, hk with
  | 0, hk =>
    obtain rfl : eIO = E := Option.some.inj hk
    exact ⟨by decide, cs_25, [], ⟨0, 12, 15, 25⟩, [], rfl, (fun z hz => by cases hz), by decide, by decide, cl_25, h_bound_H0⟩
  | k + 1, hk => cases hk
def h_steps : Hi := (yL_steps, cL_steps, 4, [(0, 9, 12, 25)], 8, 133)
theorem h_steps_L : HiL h_steps 1 4 := by
  intro p l e R s mid args below meth c H locs cells slots Q ls x q js hjs hx hb hl k
  match js, hjs, hl, k with
  | [j0], _, hl, k =>
    have hl : lv_has ls 4 [(0, .ref x), (1, .int j0), (2, .ref q)] := hl
    refine lv_aload_n hx hb dL_steps_0 rfl (lv_at hl 2 rfl) ?_
    refine lv_iconst (v := 0) hx hb dL_steps_1 (by decide) ?_
    refine lv_aload_n hx hb dL_steps_2 rfl (lv_at hl 0 rfl) ?_
    refine lv_iload_n hx hb dL_steps_3 rfl (lv_at hl 1 rfl) ?_
    exact k
theorem h_steps_H0 : HiH h_steps 12 1 := by
  intro p l e R s mid args below meth c H locs cells slots Q ls lv q hx hb hl k
  refine lv_astore_n hx hb dL_steps_12 rfl hl (by decide) rfl (fun ls hl => ?_)
  refine lv_iconst (v := nn 1) hx hb dL_steps_13 (by decide) ?_
  exact k 14 ls dL_steps_14
theorem h_steps_B : HiB h_steps m11_steps 1 4 15 := ⟨65, 6, dL_steps_4, dL_steps_7, dL_steps_8, dL_steps_9, rfl, dL_steps_15, dL_steps_16, ⟨⟨(r1_law _ (List.mem_of_getElem? (i := 2) rfl)), (r39_law _ (List.mem_of_getElem? (i := 3) rfl)), by decide +kernel⟩, (r39_law _ (List.mem_of_getElem? (i := 1) rfl)), (r39_law _ (List.mem_of_getElem? (i := 2) rfl))⟩, (r39_law _ (List.mem_of_getElem? (i := 0) rfl)), rfl, by decide, by decide⟩
theorem h_steps_X : HiX h_steps [eIO] 4 := by
  intro k E hk
  match k, hk with
  | 0, hk =>
    obtain rfl : eIO = E := Option.some.inj hk
    exact ⟨by decide, cs_25, [], ⟨0, 9, 12, 25⟩, [], rfl, (fun z hz => by cases hz), by decide, by decide, cl_25, h_steps_H0⟩
  | k + 1, hk => cases hk
def h_fate : Hi := (yL_fate, cL_fate, 5, [(0, 10, 13, 25)], 8, 134)
theorem h_fate_L : HiL h_fate 2 5 := by
  intro p l e R s mid args below meth c H locs cells slots Q ls x q js hjs hx hb hl k
  match js, hjs, hl, k with
  | [j0, j1], _, hl, k =>
    have hl : lv_has ls 5 [(0, .ref x), (1, .int j0), (2, .int j1), (3, .ref q)] := hl
    refine lv_aload_n hx hb dL_fate_0 rfl (lv_at hl 3 rfl) ?_
    refine lv_iconst (v := 0) hx hb dL_fate_1 (by decide) ?_
    refine lv_aload_n hx hb dL_fate_2 rfl (lv_at hl 0 rfl) ?_
    refine lv_iload_n hx hb dL_fate_3 rfl (lv_at hl 1 rfl) ?_
    refine lv_iload_n hx hb dL_fate_4 rfl (lv_at hl 2 rfl) ?_
    exact k
theorem h_fate_H0 : HiH h_fate 13 1 := by
  intro p l e R s mid args below meth c H locs cells slots Q ls lv q hx hb hl k
  refine lv_astore hx hb dL_fate_13 hl (by decide) rfl (fun ls hl => ?_)
  refine lv_iconst (v := nn 1) hx hb dL_fate_15 (by decide) ?_
  exact k 16 ls dL_fate_16
theorem h_fate_B : HiB h_fate m11_fate 2 5 17 := ⟨68, 7, dL_fate_5, dL_fate_8, dL_fate_9, dL_fate_10, rfl, dL_fate_17, dL_fate_18, ⟨⟨(r1_law _ (List.mem_of_getElem? (i := 2) rfl)), (r39_law _ (List.mem_of_getElem? (i := 14) rfl)), by decide +kernel⟩, (r39_law _ (List.mem_of_getElem? (i := 12) rfl)), (r39_law _ (List.mem_of_getElem? (i := 13) rfl))⟩, (r39_law _ (List.mem_of_getElem? (i := 11) rfl)), rfl, by decide, by decide⟩
theorem h_fate_X : HiX h_fate [eIO] 5 := by
  intro k E hk
  match k, hk with
  | 0, hk =>
    obtain rfl : eIO = E := Option.some.inj hk
    exact ⟨by decide, cs_25, [], ⟨0, 10, 13, 25⟩, [], rfl, (fun z hz => by cases hz), by decide, by decide, cl_25, h_fate_H0⟩
  | k + 1, hk => cases hk
def h_within : Hi := (yL_within, cL_within, 4, [(0, 9, 12, 13), (0, 9, 15, 15)], 8, 198)
theorem h_within_L : HiL h_within 1 4 := by
  intro p l e R s mid args below meth c H locs cells slots Q ls x q js hjs hx hb hl k
  match js, hjs, hl, k with
  | [j0], _, hl, k =>
    have hl : lv_has ls 4 [(0, .ref x), (1, .int j0), (2, .ref q)] := hl
    refine lv_aload_n hx hb dL_within_0 rfl (lv_at hl 2 rfl) ?_
    refine lv_iconst (v := 0) hx hb dL_within_1 (by decide) ?_
    refine lv_aload_n hx hb dL_within_2 rfl (lv_at hl 0 rfl) ?_
    refine lv_iload_n hx hb dL_within_3 rfl (lv_at hl 1 rfl) ?_
    exact k
theorem h_within_H0 : HiH h_within 12 1 := by
  intro p l e R s mid args below meth c H locs cells slots Q ls lv q hx hb hl k
  refine lv_astore_n hx hb dL_within_12 rfl hl (by decide) rfl (fun ls hl => ?_)
  refine lv_iconst (v := nn 1) hx hb dL_within_13 (by decide) ?_
  exact k 14 ls dL_within_14
theorem h_within_H1 : HiH h_within 15 2 := by
  intro p l e R s mid args below meth c H locs cells slots Q ls lv q hx hb hl k
  refine lv_astore_n hx hb dL_within_15 rfl hl (by decide) rfl (fun ls hl => ?_)
  refine lv_iconst (v := nn 2) hx hb dL_within_16 (by decide) ?_
  exact k 17 ls dL_within_17
theorem h_within_B : HiB h_within m11_within 1 4 18 := ⟨71, 9, dL_within_4, dL_within_7, dL_within_8, dL_within_9, rfl, dL_within_18, dL_within_19, ⟨⟨(r1_law _ (List.mem_of_getElem? (i := 2) rfl)), (r40_law _ (List.mem_of_getElem? (i := 1) rfl)), by decide +kernel⟩, (r39_law _ (List.mem_of_getElem? (i := 23) rfl)), (r40_law _ (List.mem_of_getElem? (i := 0) rfl))⟩, (r39_law _ (List.mem_of_getElem? (i := 22) rfl)), rfl, by decide, by decide⟩
theorem h_within_X : HiX h_within [eIA, eIS] 4 := by
  intro k E hk
  match k, hk with
  | 0, hk =>
    obtain rfl : eIA = E := Option.some.inj hk
    exact ⟨by decide, cs_13, [], ⟨0, 9, 12, 13⟩, [⟨0, 9, 15, 15⟩], rfl, (fun z hz => by cases hz), by decide, by decide, cl_13, h_within_H0⟩
  | 1, hk =>
    obtain rfl : eIS = E := Option.some.inj hk
    exact ⟨by decide, cs_15, [⟨0, 9, 12, 13⟩], ⟨0, 9, 15, 15⟩, [], rfl, (fun z hz => by
      rcases List.mem_cons.mp hz with h | hz
      · rw [h]
        exact ⟨by decide, eIA, by decide, by decide, cl_13⟩
      cases hz), by decide, by decide, cl_15, h_within_H1⟩
  | k + 2, hk => cases hk
