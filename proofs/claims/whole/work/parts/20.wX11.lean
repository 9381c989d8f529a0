/-! written by gen/drive.py -/
set_option maxHeartbeats 4000000 in
set_option maxRecDepth 100000 in
theorem w11_function {m : Mm} {K : Option Value ⊕ String → Mm → Prop} (hm : St m) {a0 : Int32} {a1 : Int32}  (h : ((a0 < 0 → K (.inr "java/lang/IllegalArgumentException") (mWaste m 1 6)) ∧ (¬ a0 < 0 → ((a0 ≤ 2 → (((mI m 7 4) < 8 → C m5_addFunction [(.ref 7), (.int a0), (.int a1)] m (fun o m4 => ∃ x6 : Int32, o = .inl (some (.int x6)) ∧ St m4 ∧ K (.inl (some (.int x6))) m4)) ∧ (¬ (mI m 7 4) < 8 → K (.inr "java/lang/IllegalStateException") (mWaste m 1 6)))) ∧ (¬ a0 ≤ 2 → K (.inr "java/lang/IllegalArgumentException") (mWaste m 1 6)))))) : V m11_function 0 [some (.ref 0), some (.int a0), some (.int a1)] [] m K := by
  refine r_iload_n (y := m11_function) dX11_function_0 rfl rfl ?_
  refine r_if_lt (y := m11_function) (tgt := 9) dX11_function_1 (by decide) (fun hc1 => ?_) (fun hc1 => ?_)
  · have h := h.1 hc1
    exact r_throw (y := m11_function) (is := 47) (ic := 49) (text := "parts are 0 to 2") dX11_function_9 dX11_function_12 dX11_function_13 dX11_function_15 dX11_function_18 rfl (by decide +kernel) x49_ok (by decide) (Nat.le_of_ble_eq_true rfl) h
  · have h := h.2 hc1
    refine r_iload_n (y := m11_function) dX11_function_4 rfl rfl ?_
    refine r_iconst (y := m11_function) (v := 2) dX11_function_5 (by decide) ?_
    refine r_icmp_le (y := m11_function) (tgt := 19) dX11_function_6 (by decide) (fun hc2 => ?_) (fun hc2 => ?_)
    · have h := h.1 hc2
      refine r_aload_n (y := m11_function) dX11_function_19 rfl rfl ?_
      refine g_X11_19 (y := m11_function) rfl dX11_function_20 hm ?_
      refine g_X11_52 (y := m11_function) rfl dX11_function_23 hm ?_
      refine r_bipush (y := m11_function) (v := 8) dX11_function_26 (by decide) ?_
      refine r_icmp_lt (y := m11_function) (tgt := 41) dX11_function_28 (by decide) (fun hc3 => ?_) (fun hc3 => ?_)
      · have h := h.1 hc3
        refine r_aload_n (y := m11_function) dX11_function_41 rfl rfl ?_
        refine g_X11_19 (y := m11_function) rfl dX11_function_42 hm ?_
        refine r_iload_n (y := m11_function) dX11_function_45 rfl rfl ?_
        refine r_iload_n (y := m11_function) dX11_function_46 rfl rfl ?_
        refine r_callVN (y := m11_function) (As := [(.int a0), (.int a1)]) (b := 7) (ci := 5) dX11_function_47 rfl k5_addFunction lm_X11_61 rfl ⟨by decide, by decide⟩ (so_7 hm) (by decide) rfl (Nat.le_of_ble_eq_true rfl) (C.mono h ?_)
        rintro _ m4 ⟨x6, rfl, hm5, h⟩
        refine ⟨_, rfl, ?_⟩
        exact r_iret (y := m11_function) dX11_function_50 rfl rfl h
      · have h := h.2 hc3
        exact r_throw (y := m11_function) (is := 58) (ic := 60) (text := "there are 8 functions") dX11_function_31 dX11_function_34 dX11_function_35 dX11_function_37 dX11_function_40 rfl (by decide +kernel) x60_ok (by decide) (Nat.le_of_ble_eq_true rfl) h
    · have h := h.2 hc2
      exact r_throw (y := m11_function) (is := 47) (ic := 49) (text := "parts are 0 to 2") dX11_function_9 dX11_function_12 dX11_function_13 dX11_function_15 dX11_function_18 rfl (by decide +kernel) x49_ok (by decide) (Nat.le_of_ble_eq_true rfl) h
set_option maxHeartbeats 4000000 in
set_option maxRecDepth 100000 in
theorem w11_name {m : Mm} {K : Option Value ⊕ String → Mm → Prop} (hm : St m) {a0 : Int32}  (h : ((a0 < 0 → K (.inr "java/lang/IllegalArgumentException") (mWaste m 1 6)) ∧ (¬ a0 < 0 → ((a0 < 6 → (C m11_tell [(.ref 0), (.int 0), (.int a0), (.int (-1)), (.int (-1))] m (fun o m1 => ∃ E, o = .inr E ∧ K (.inr E) m1) ∨ C m11_tell [(.ref 0), (.int 0), (.int a0), (.int (-1)), (.int (-1))] m (fun o m3 => ∃ x5 : Int32, o = .inl (some (.int x5)) ∧ St m3 ∧ K (.inl (some (.int x5))) m3))) ∧ (¬ a0 < 6 → K (.inr "java/lang/IllegalArgumentException") (mWaste m 1 6)))))) : V m11_name 0 [some (.ref 0), some (.int a0)] [] m K := by
  refine r_iload_n (y := m11_name) dX11_name_0 rfl rfl ?_
  refine r_if_lt (y := m11_name) (tgt := 10) dX11_name_1 (by decide) (fun hc1 => ?_) (fun hc1 => ?_)
  · have h := h.1 hc1
    exact r_throw (y := m11_name) (is := 65) (ic := 49) (text := "names are 0 to 5") dX11_name_10 dX11_name_13 dX11_name_14 dX11_name_16 dX11_name_19 rfl (by decide +kernel) x49_ok (by decide) (Nat.le_of_ble_eq_true rfl) h
  · have h := h.2 hc1
    refine r_iload_n (y := m11_name) dX11_name_4 rfl rfl ?_
    refine r_bipush (y := m11_name) (v := 6) dX11_name_5 (by decide) ?_
    refine r_icmp_lt (y := m11_name) (tgt := 20) dX11_name_7 (by decide) (fun hc2 => ?_) (fun hc2 => ?_)
    · have h := h.1 hc2
      refine r_aload_n (y := m11_name) dX11_name_20 rfl rfl ?_
      refine r_iconst (y := m11_name) (v := 0) dX11_name_21 (by decide) ?_
      refine r_iload_n (y := m11_name) dX11_name_22 rfl rfl ?_
      refine r_iconst (y := m11_name) (v := (-1)) dX11_name_23 (by decide) ?_
      refine r_iconst (y := m11_name) (v := (-1)) dX11_name_24 (by decide) ?_
      rcases h with h | h
      · refine r_callX (y := m11_name) (As := [(.int 0), (.int a0), (.int (-1)), (.int (-1))]) (b := 0) (ci := 11) dX11_name_25 rfl k11_tell lm_X11_67 rfl ⟨by decide, by decide⟩ (so_0 hm) (by decide) rfl (Nat.le_of_ble_eq_true rfl) h
      · refine r_callV (y := m11_name) (As := [(.int 0), (.int a0), (.int (-1)), (.int (-1))]) (b := 0) (ci := 11) dX11_name_25 rfl k11_tell lm_X11_67 rfl ⟨by decide, by decide⟩ (so_0 hm) (by decide) rfl (Nat.le_of_ble_eq_true rfl) (C.mono h ?_)
        rintro _ m3 ⟨x5, rfl, hm4, h⟩
        refine ⟨_, rfl, ?_⟩
        exact r_iret (y := m11_name) dX11_name_28 rfl rfl h
    · have h := h.2 hc2
      exact r_throw (y := m11_name) (is := 65) (ic := 49) (text := "names are 0 to 5") dX11_name_10 dX11_name_13 dX11_name_14 dX11_name_16 dX11_name_19 rfl (by decide +kernel) x49_ok (by decide) (Nat.le_of_ble_eq_true rfl) h
set_option maxHeartbeats 4000000 in
set_option maxRecDepth 100000 in
theorem w11_data {m : Mm} {K : Option Value ⊕ String → Mm → Prop} (hm : St m) {a0 : Int32} {a1 : Int32} {a2 : Int32}  (h : ((a0 < 0 → (((0 : Int32) = 0 → (C m11_needParts [(.ref 0), (.int 0), (.int a1), (.int a2)] m (fun o m1 => ∃ E, o = .inr E ∧ K (.inr E) m1) ∨ C m11_needParts [(.ref 0), (.int 0), (.int a1), (.int a2)] m (fun o m3 => o = .inl none ∧ St m3 ∧ ((¬ (0 : Int32) = 0 → (((0 : Int32) ≤ 0 → (((0 : Int32) ≤ 1 → (C m11_tell [(.ref 0), (.int 1), (.int a0), (.int (-1)), (.int (-1))] m3 (fun o m1 => ∃ E, o = .inr E ∧ K (.inr E) m1) ∨ C m11_tell [(.ref 0), (.int 1), (.int a0), (.int (-1)), (.int (-1))] m3 (fun o m8 => ∃ x10 : Int32, o = .inl (some (.int x10)) ∧ St m8 ∧ K (.inl (some (.int x10))) m8))) ∧ (¬ (0 : Int32) ≤ 1 → (C m11_tell [(.ref 0), (.int 1), (.int a0), (.int (-1)), (.int a2)] m3 (fun o m1 => ∃ E, o = .inr E ∧ K (.inr E) m1) ∨ C m11_tell [(.ref 0), (.int 1), (.int a0), (.int (-1)), (.int a2)] m3 (fun o m11 => ∃ x13 : Int32, o = .inl (some (.int x13)) ∧ St m11 ∧ K (.inl (some (.int x13))) m11))))) ∧ (¬ (0 : Int32) ≤ 0 → (((0 : Int32) ≤ 1 → (C m11_tell [(.ref 0), (.int 1), (.int a0), (.int a1), (.int (-1))] m3 (fun o m1 => ∃ E, o = .inr E ∧ K (.inr E) m1) ∨ C m11_tell [(.ref 0), (.int 1), (.int a0), (.int a1), (.int (-1))] m3 (fun o m15 => ∃ x17 : Int32, o = .inl (some (.int x17)) ∧ St m15 ∧ K (.inl (some (.int x17))) m15))) ∧ (¬ (0 : Int32) ≤ 1 → (C m11_tell [(.ref 0), (.int 1), (.int a0), (.int a1), (.int a2)] m3 (fun o m1 => ∃ E, o = .inr E ∧ K (.inr E) m1) ∨ C m11_tell [(.ref 0), (.int 1), (.int a0), (.int a1), (.int a2)] m3 (fun o m18 => ∃ x20 : Int32, o = .inl (some (.int x20)) ∧ St m18 ∧ K (.inl (some (.int x20))) m18))))))) ∧ ((0 : Int32) = 0 → K (.inr "java/lang/IllegalArgumentException") (mWaste m3 1 6)))))) ∧ (¬ (0 : Int32) = 0 → C m11_partsOfKind [(.int a0)] m (fun o m21 => ∃ x23 : Int32, o = .inl (some (.int x23)) ∧ St m21 ∧ (C m11_needParts [(.ref 0), (.int x23), (.int a1), (.int a2)] m21 (fun o m1 => ∃ E, o = .inr E ∧ K (.inr E) m1) ∨ C m11_needParts [(.ref 0), (.int x23), (.int a1), (.int a2)] m21 (fun o m24 => o = .inl none ∧ St m24 ∧ ((¬ (0 : Int32) = 0 → ((x23 ≤ 0 → ((x23 ≤ 1 → (C m11_tell [(.ref 0), (.int 1), (.int a0), (.int (-1)), (.int (-1))] m24 (fun o m1 => ∃ E, o = .inr E ∧ K (.inr E) m1) ∨ C m11_tell [(.ref 0), (.int 1), (.int a0), (.int (-1)), (.int (-1))] m24 (fun o m29 => ∃ x31 : Int32, o = .inl (some (.int x31)) ∧ St m29 ∧ K (.inl (some (.int x31))) m29))) ∧ (¬ x23 ≤ 1 → (C m11_tell [(.ref 0), (.int 1), (.int a0), (.int (-1)), (.int a2)] m24 (fun o m1 => ∃ E, o = .inr E ∧ K (.inr E) m1) ∨ C m11_tell [(.ref 0), (.int 1), (.int a0), (.int (-1)), (.int a2)] m24 (fun o m32 => ∃ x34 : Int32, o = .inl (some (.int x34)) ∧ St m32 ∧ K (.inl (some (.int x34))) m32))))) ∧ (¬ x23 ≤ 0 → ((x23 ≤ 1 → (C m11_tell [(.ref 0), (.int 1), (.int a0), (.int a1), (.int (-1))] m24 (fun o m1 => ∃ E, o = .inr E ∧ K (.inr E) m1) ∨ C m11_tell [(.ref 0), (.int 1), (.int a0), (.int a1), (.int (-1))] m24 (fun o m36 => ∃ x38 : Int32, o = .inl (some (.int x38)) ∧ St m36 ∧ K (.inl (some (.int x38))) m36))) ∧ (¬ x23 ≤ 1 → (C m11_tell [(.ref 0), (.int 1), (.int a0), (.int a1), (.int a2)] m24 (fun o m1 => ∃ E, o = .inr E ∧ K (.inr E) m1) ∨ C m11_tell [(.ref 0), (.int 1), (.int a0), (.int a1), (.int a2)] m24 (fun o m39 => ∃ x41 : Int32, o = .inl (some (.int x41)) ∧ St m39 ∧ K (.inl (some (.int x41))) m39))))))) ∧ ((0 : Int32) = 0 → K (.inr "java/lang/IllegalArgumentException") (mWaste m24 1 6))))))))) ∧ (¬ a0 < 0 → ((6 ≤ a0 → (((0 : Int32) = 0 → (C m11_needParts [(.ref 0), (.int 0), (.int a1), (.int a2)] m (fun o m1 => ∃ E, o = .inr E ∧ K (.inr E) m1) ∨ C m11_needParts [(.ref 0), (.int 0), (.int a1), (.int a2)] m (fun o m44 => o = .inl none ∧ St m44 ∧ ((¬ (0 : Int32) = 0 → (((0 : Int32) ≤ 0 → (((0 : Int32) ≤ 1 → (C m11_tell [(.ref 0), (.int 1), (.int a0), (.int (-1)), (.int (-1))] m44 (fun o m1 => ∃ E, o = .inr E ∧ K (.inr E) m1) ∨ C m11_tell [(.ref 0), (.int 1), (.int a0), (.int (-1)), (.int (-1))] m44 (fun o m49 => ∃ x51 : Int32, o = .inl (some (.int x51)) ∧ St m49 ∧ K (.inl (some (.int x51))) m49))) ∧ (¬ (0 : Int32) ≤ 1 → (C m11_tell [(.ref 0), (.int 1), (.int a0), (.int (-1)), (.int a2)] m44 (fun o m1 => ∃ E, o = .inr E ∧ K (.inr E) m1) ∨ C m11_tell [(.ref 0), (.int 1), (.int a0), (.int (-1)), (.int a2)] m44 (fun o m52 => ∃ x54 : Int32, o = .inl (some (.int x54)) ∧ St m52 ∧ K (.inl (some (.int x54))) m52))))) ∧ (¬ (0 : Int32) ≤ 0 → (((0 : Int32) ≤ 1 → (C m11_tell [(.ref 0), (.int 1), (.int a0), (.int a1), (.int (-1))] m44 (fun o m1 => ∃ E, o = .inr E ∧ K (.inr E) m1) ∨ C m11_tell [(.ref 0), (.int 1), (.int a0), (.int a1), (.int (-1))] m44 (fun o m56 => ∃ x58 : Int32, o = .inl (some (.int x58)) ∧ St m56 ∧ K (.inl (some (.int x58))) m56))) ∧ (¬ (0 : Int32) ≤ 1 → (C m11_tell [(.ref 0), (.int 1), (.int a0), (.int a1), (.int a2)] m44 (fun o m1 => ∃ E, o = .inr E ∧ K (.inr E) m1) ∨ C m11_tell [(.ref 0), (.int 1), (.int a0), (.int a1), (.int a2)] m44 (fun o m59 => ∃ x61 : Int32, o = .inl (some (.int x61)) ∧ St m59 ∧ K (.inl (some (.int x61))) m59))))))) ∧ ((0 : Int32) = 0 → K (.inr "java/lang/IllegalArgumentException") (mWaste m44 1 6)))))) ∧ (¬ (0 : Int32) = 0 → C m11_partsOfKind [(.int a0)] m (fun o m62 => ∃ x64 : Int32, o = .inl (some (.int x64)) ∧ St m62 ∧ (C m11_needParts [(.ref 0), (.int x64), (.int a1), (.int a2)] m62 (fun o m1 => ∃ E, o = .inr E ∧ K (.inr E) m1) ∨ C m11_needParts [(.ref 0), (.int x64), (.int a1), (.int a2)] m62 (fun o m65 => o = .inl none ∧ St m65 ∧ ((¬ (0 : Int32) = 0 → ((x64 ≤ 0 → ((x64 ≤ 1 → (C m11_tell [(.ref 0), (.int 1), (.int a0), (.int (-1)), (.int (-1))] m65 (fun o m1 => ∃ E, o = .inr E ∧ K (.inr E) m1) ∨ C m11_tell [(.ref 0), (.int 1), (.int a0), (.int (-1)), (.int (-1))] m65 (fun o m70 => ∃ x72 : Int32, o = .inl (some (.int x72)) ∧ St m70 ∧ K (.inl (some (.int x72))) m70))) ∧ (¬ x64 ≤ 1 → (C m11_tell [(.ref 0), (.int 1), (.int a0), (.int (-1)), (.int a2)] m65 (fun o m1 => ∃ E, o = .inr E ∧ K (.inr E) m1) ∨ C m11_tell [(.ref 0), (.int 1), (.int a0), (.int (-1)), (.int a2)] m65 (fun o m73 => ∃ x75 : Int32, o = .inl (some (.int x75)) ∧ St m73 ∧ K (.inl (some (.int x75))) m73))))) ∧ (¬ x64 ≤ 0 → ((x64 ≤ 1 → (C m11_tell [(.ref 0), (.int 1), (.int a0), (.int a1), (.int (-1))] m65 (fun o m1 => ∃ E, o = .inr E ∧ K (.inr E) m1) ∨ C m11_tell [(.ref 0), (.int 1), (.int a0), (.int a1), (.int (-1))] m65 (fun o m77 => ∃ x79 : Int32, o = .inl (some (.int x79)) ∧ St m77 ∧ K (.inl (some (.int x79))) m77))) ∧ (¬ x64 ≤ 1 → (C m11_tell [(.ref 0), (.int 1), (.int a0), (.int a1), (.int a2)] m65 (fun o m1 => ∃ E, o = .inr E ∧ K (.inr E) m1) ∨ C m11_tell [(.ref 0), (.int 1), (.int a0), (.int a1), (.int a2)] m65 (fun o m80 => ∃ x82 : Int32, o = .inl (some (.int x82)) ∧ St m80 ∧ K (.inl (some (.int x82))) m80))))))) ∧ ((0 : Int32) = 0 → K (.inr "java/lang/IllegalArgumentException") (mWaste m65 1 6))))))))) ∧ (¬ 6 ≤ a0 → (((1 : Int32) = 0 → (C m11_needParts [(.ref 0), (.int 0), (.int a1), (.int a2)] m (fun o m1 => ∃ E, o = .inr E ∧ K (.inr E) m1) ∨ C m11_needParts [(.ref 0), (.int 0), (.int a1), (.int a2)] m (fun o m84 => o = .inl none ∧ St m84 ∧ ((¬ (1 : Int32) = 0 → (((0 : Int32) ≤ 0 → (((0 : Int32) ≤ 1 → (C m11_tell [(.ref 0), (.int 1), (.int a0), (.int (-1)), (.int (-1))] m84 (fun o m1 => ∃ E, o = .inr E ∧ K (.inr E) m1) ∨ C m11_tell [(.ref 0), (.int 1), (.int a0), (.int (-1)), (.int (-1))] m84 (fun o m89 => ∃ x91 : Int32, o = .inl (some (.int x91)) ∧ St m89 ∧ K (.inl (some (.int x91))) m89))) ∧ (¬ (0 : Int32) ≤ 1 → (C m11_tell [(.ref 0), (.int 1), (.int a0), (.int (-1)), (.int a2)] m84 (fun o m1 => ∃ E, o = .inr E ∧ K (.inr E) m1) ∨ C m11_tell [(.ref 0), (.int 1), (.int a0), (.int (-1)), (.int a2)] m84 (fun o m92 => ∃ x94 : Int32, o = .inl (some (.int x94)) ∧ St m92 ∧ K (.inl (some (.int x94))) m92))))) ∧ (¬ (0 : Int32) ≤ 0 → (((0 : Int32) ≤ 1 → (C m11_tell [(.ref 0), (.int 1), (.int a0), (.int a1), (.int (-1))] m84 (fun o m1 => ∃ E, o = .inr E ∧ K (.inr E) m1) ∨ C m11_tell [(.ref 0), (.int 1), (.int a0), (.int a1), (.int (-1))] m84 (fun o m96 => ∃ x98 : Int32, o = .inl (some (.int x98)) ∧ St m96 ∧ K (.inl (some (.int x98))) m96))) ∧ (¬ (0 : Int32) ≤ 1 → (C m11_tell [(.ref 0), (.int 1), (.int a0), (.int a1), (.int a2)] m84 (fun o m1 => ∃ E, o = .inr E ∧ K (.inr E) m1) ∨ C m11_tell [(.ref 0), (.int 1), (.int a0), (.int a1), (.int a2)] m84 (fun o m99 => ∃ x101 : Int32, o = .inl (some (.int x101)) ∧ St m99 ∧ K (.inl (some (.int x101))) m99))))))) ∧ ((1 : Int32) = 0 → K (.inr "java/lang/IllegalArgumentException") (mWaste m84 1 6)))))) ∧ (¬ (1 : Int32) = 0 → C m11_partsOfKind [(.int a0)] m (fun o m102 => ∃ x104 : Int32, o = .inl (some (.int x104)) ∧ St m102 ∧ (C m11_needParts [(.ref 0), (.int x104), (.int a1), (.int a2)] m102 (fun o m1 => ∃ E, o = .inr E ∧ K (.inr E) m1) ∨ C m11_needParts [(.ref 0), (.int x104), (.int a1), (.int a2)] m102 (fun o m105 => o = .inl none ∧ St m105 ∧ ((¬ (1 : Int32) = 0 → ((x104 ≤ 0 → ((x104 ≤ 1 → (C m11_tell [(.ref 0), (.int 1), (.int a0), (.int (-1)), (.int (-1))] m105 (fun o m1 => ∃ E, o = .inr E ∧ K (.inr E) m1) ∨ C m11_tell [(.ref 0), (.int 1), (.int a0), (.int (-1)), (.int (-1))] m105 (fun o m110 => ∃ x112 : Int32, o = .inl (some (.int x112)) ∧ St m110 ∧ K (.inl (some (.int x112))) m110))) ∧ (¬ x104 ≤ 1 → (C m11_tell [(.ref 0), (.int 1), (.int a0), (.int (-1)), (.int a2)] m105 (fun o m1 => ∃ E, o = .inr E ∧ K (.inr E) m1) ∨ C m11_tell [(.ref 0), (.int 1), (.int a0), (.int (-1)), (.int a2)] m105 (fun o m113 => ∃ x115 : Int32, o = .inl (some (.int x115)) ∧ St m113 ∧ K (.inl (some (.int x115))) m113))))) ∧ (¬ x104 ≤ 0 → ((x104 ≤ 1 → (C m11_tell [(.ref 0), (.int 1), (.int a0), (.int a1), (.int (-1))] m105 (fun o m1 => ∃ E, o = .inr E ∧ K (.inr E) m1) ∨ C m11_tell [(.ref 0), (.int 1), (.int a0), (.int a1), (.int (-1))] m105 (fun o m117 => ∃ x119 : Int32, o = .inl (some (.int x119)) ∧ St m117 ∧ K (.inl (some (.int x119))) m117))) ∧ (¬ x104 ≤ 1 → (C m11_tell [(.ref 0), (.int 1), (.int a0), (.int a1), (.int a2)] m105 (fun o m1 => ∃ E, o = .inr E ∧ K (.inr E) m1) ∨ C m11_tell [(.ref 0), (.int 1), (.int a0), (.int a1), (.int a2)] m105 (fun o m120 => ∃ x122 : Int32, o = .inl (some (.int x122)) ∧ St m120 ∧ K (.inl (some (.int x122))) m120))))))) ∧ ((1 : Int32) = 0 → K (.inr "java/lang/IllegalArgumentException") (mWaste m105 1 6))))))))))))) : V m11_data 0 [some (.ref 0), some (.int a0), some (.int a1), some (.int a2), none, none] [] m K := by
  refine r_iload_n (y := m11_data) dX11_data_0 rfl rfl ?_
  refine r_if_lt (y := m11_data) (tgt := 14) dX11_data_1 (by decide) (fun hc1 => ?_) (fun hc1 => ?_)
  · have h := h.1 hc1
    refine r_iconst (y := m11_data) (v := 0) dX11_data_14 (by decide) ?_
    refine r_istore (y := m11_data) (L' := [some (.ref 0), some (.int a0), some (.int a1), some (.int a2), some (.int 0), none]) dX11_data_15 (Nat.le_of_ble_eq_true rfl) rfl ?_
    refine r_iload (y := m11_data) dX11_data_17 rfl ?_
    refine r_if_eq (y := m11_data) (tgt := 29) dX11_data_19 (by decide) (fun hc2 => ?_) (fun hc2 => ?_)
    · have h := h.1 hc2
      refine r_iconst (y := m11_data) (v := 0) dX11_data_29 (by decide) ?_
      refine r_istore (y := m11_data) (L' := [some (.ref 0), some (.int a0), some (.int a1), some (.int a2), some (.int 0), some (.int 0)]) dX11_data_30 (Nat.le_of_ble_eq_true rfl) rfl ?_
      refine r_aload_n (y := m11_data) dX11_data_32 rfl rfl ?_
      refine r_iload (y := m11_data) dX11_data_33 rfl ?_
      refine r_iload_n (y := m11_data) dX11_data_35 rfl rfl ?_
      refine r_iload_n (y := m11_data) dX11_data_36 rfl rfl ?_
      rcases h with h | h
      · refine r_callX (y := m11_data) (As := [(.int 0), (.int a1), (.int a2)]) (b := 0) (ci := 11) dX11_data_37 rfl k11_needParts lm_X11_75 rfl ⟨by decide, by decide⟩ (so_0 hm) (by decide) rfl (Nat.le_of_ble_eq_true rfl) h
      · refine r_callV (y := m11_data) (As := [(.int 0), (.int a1), (.int a2)]) (b := 0) (ci := 11) dX11_data_37 rfl k11_needParts lm_X11_75 rfl ⟨by decide, by decide⟩ (so_0 hm) (by decide) rfl (Nat.le_of_ble_eq_true rfl) (C.mono h ?_)
        rintro _ m3 ⟨rfl, hm4, h⟩
        refine ⟨none, rfl, ?_⟩
        refine r_iload (y := m11_data) dX11_data_40 rfl ?_
        refine r_if_ne (y := m11_data) (tgt := 55) dX11_data_42 (by decide) (fun hc5 => ?_) (fun hc5 => ?_)
        · have h := h.1 hc5
          refine r_aload_n (y := m11_data) dX11_data_55 rfl rfl ?_
          refine r_iconst (y := m11_data) (v := 1) dX11_data_56 (by decide) ?_
          refine r_iload_n (y := m11_data) dX11_data_57 rfl rfl ?_
          refine r_iload (y := m11_data) dX11_data_58 rfl ?_
          refine r_if_le (y := m11_data) (tgt := 67) dX11_data_60 (by decide) (fun hc6 => ?_) (fun hc6 => ?_)
          · have h := h.1 hc6
            refine r_iconst (y := m11_data) (v := (-1)) dX11_data_67 (by decide) ?_
            refine r_iload (y := m11_data) dX11_data_68 rfl ?_
            refine r_iconst (y := m11_data) (v := 1) dX11_data_70 (by decide) ?_
            refine r_icmp_le (y := m11_data) (tgt := 78) dX11_data_71 (by decide) (fun hc7 => ?_) (fun hc7 => ?_)
            · have h := h.1 hc7
              refine r_iconst (y := m11_data) (v := (-1)) dX11_data_78 (by decide) ?_
              rcases h with h | h
              · refine r_callX (y := m11_data) (As := [(.int 1), (.int a0), (.int (-1)), (.int (-1))]) (b := 0) (ci := 11) dX11_data_79 rfl k11_tell lm_X11_67 rfl ⟨by decide, by decide⟩ (so_0 hm4) (by decide) rfl (Nat.le_of_ble_eq_true rfl) h
              · refine r_callV (y := m11_data) (As := [(.int 1), (.int a0), (.int (-1)), (.int (-1))]) (b := 0) (ci := 11) dX11_data_79 rfl k11_tell lm_X11_67 rfl ⟨by decide, by decide⟩ (so_0 hm4) (by decide) rfl (Nat.le_of_ble_eq_true rfl) (C.mono h ?_)
                rintro _ m8 ⟨x10, rfl, hm9, h⟩
                refine ⟨_, rfl, ?_⟩
                exact r_iret (y := m11_data) dX11_data_82 rfl rfl h
            · have h := h.2 hc7
              refine r_iload_n (y := m11_data) dX11_data_74 rfl rfl ?_
              refine r_goto (y := m11_data) (tgt := 79) dX11_data_75 (by decide) ?_
              rcases h with h | h
              · refine r_callX (y := m11_data) (As := [(.int 1), (.int a0), (.int (-1)), (.int a2)]) (b := 0) (ci := 11) dX11_data_79 rfl k11_tell lm_X11_67 rfl ⟨by decide, by decide⟩ (so_0 hm4) (by decide) rfl (Nat.le_of_ble_eq_true rfl) h
              · refine r_callV (y := m11_data) (As := [(.int 1), (.int a0), (.int (-1)), (.int a2)]) (b := 0) (ci := 11) dX11_data_79 rfl k11_tell lm_X11_67 rfl ⟨by decide, by decide⟩ (so_0 hm4) (by decide) rfl (Nat.le_of_ble_eq_true rfl) (C.mono h ?_)
                rintro _ m11 ⟨x13, rfl, hm12, h⟩
                refine ⟨_, rfl, ?_⟩
                exact r_iret (y := m11_data) dX11_data_82 rfl rfl h
          · have h := h.2 hc6
            refine r_iload_n (y := m11_data) dX11_data_63 rfl rfl ?_
            refine r_goto (y := m11_data) (tgt := 68) dX11_data_64 (by decide) ?_
            refine r_iload (y := m11_data) dX11_data_68 rfl ?_
            refine r_iconst (y := m11_data) (v := 1) dX11_data_70 (by decide) ?_
            refine r_icmp_le (y := m11_data) (tgt := 78) dX11_data_71 (by decide) (fun hc14 => ?_) (fun hc14 => ?_)
            · have h := h.1 hc14
              refine r_iconst (y := m11_data) (v := (-1)) dX11_data_78 (by decide) ?_
              rcases h with h | h
              · refine r_callX (y := m11_data) (As := [(.int 1), (.int a0), (.int a1), (.int (-1))]) (b := 0) (ci := 11) dX11_data_79 rfl k11_tell lm_X11_67 rfl ⟨by decide, by decide⟩ (so_0 hm4) (by decide) rfl (Nat.le_of_ble_eq_true rfl) h
              · refine r_callV (y := m11_data) (As := [(.int 1), (.int a0), (.int a1), (.int (-1))]) (b := 0) (ci := 11) dX11_data_79 rfl k11_tell lm_X11_67 rfl ⟨by decide, by decide⟩ (so_0 hm4) (by decide) rfl (Nat.le_of_ble_eq_true rfl) (C.mono h ?_)
                rintro _ m15 ⟨x17, rfl, hm16, h⟩
                refine ⟨_, rfl, ?_⟩
                exact r_iret (y := m11_data) dX11_data_82 rfl rfl h
            · have h := h.2 hc14
              refine r_iload_n (y := m11_data) dX11_data_74 rfl rfl ?_
              refine r_goto (y := m11_data) (tgt := 79) dX11_data_75 (by decide) ?_
              rcases h with h | h
              · refine r_callX (y := m11_data) (As := [(.int 1), (.int a0), (.int a1), (.int a2)]) (b := 0) (ci := 11) dX11_data_79 rfl k11_tell lm_X11_67 rfl ⟨by decide, by decide⟩ (so_0 hm4) (by decide) rfl (Nat.le_of_ble_eq_true rfl) h
              · refine r_callV (y := m11_data) (As := [(.int 1), (.int a0), (.int a1), (.int a2)]) (b := 0) (ci := 11) dX11_data_79 rfl k11_tell lm_X11_67 rfl ⟨by decide, by decide⟩ (so_0 hm4) (by decide) rfl (Nat.le_of_ble_eq_true rfl) (C.mono h ?_)
                rintro _ m18 ⟨x20, rfl, hm19, h⟩
                refine ⟨_, rfl, ?_⟩
                exact r_iret (y := m11_data) dX11_data_82 rfl rfl h
        · have h := h.2 hc5
          exact r_throw (y := m11_data) (is := 79) (ic := 49) (text := "kinds are 0 to 5") dX11_data_45 dX11_data_48 dX11_data_49 dX11_data_51 dX11_data_54 rfl (by decide +kernel) x49_ok (by decide) (Nat.le_of_ble_eq_true rfl) h
    · have h := h.2 hc2
      refine r_iload_n (y := m11_data) dX11_data_22 rfl rfl ?_
      refine r_callS (y := m11_data) (As := [(.int a0)]) dX11_data_23 rfl k11_partsOfKind lm_X11_71 rfl ⟨by decide, by decide⟩ (Nat.le_of_ble_eq_true rfl) (C.mono h ?_)
      rintro _ m21 ⟨x23, rfl, hm22, h⟩
      refine ⟨_, rfl, ?_⟩
      refine r_goto (y := m11_data) (tgt := 30) dX11_data_26 (by decide) ?_
      refine r_istore (y := m11_data) (L' := [some (.ref 0), some (.int a0), some (.int a1), some (.int a2), some (.int 0), some (.int x23)]) dX11_data_30 (Nat.le_of_ble_eq_true rfl) rfl ?_
      refine r_aload_n (y := m11_data) dX11_data_32 rfl rfl ?_
      refine r_iload (y := m11_data) dX11_data_33 rfl ?_
      refine r_iload_n (y := m11_data) dX11_data_35 rfl rfl ?_
      refine r_iload_n (y := m11_data) dX11_data_36 rfl rfl ?_
      rcases h with h | h
      · refine r_callX (y := m11_data) (As := [(.int x23), (.int a1), (.int a2)]) (b := 0) (ci := 11) dX11_data_37 rfl k11_needParts lm_X11_75 rfl ⟨by decide, by decide⟩ (so_0 hm22) (by decide) rfl (Nat.le_of_ble_eq_true rfl) h
      · refine r_callV (y := m11_data) (As := [(.int x23), (.int a1), (.int a2)]) (b := 0) (ci := 11) dX11_data_37 rfl k11_needParts lm_X11_75 rfl ⟨by decide, by decide⟩ (so_0 hm22) (by decide) rfl (Nat.le_of_ble_eq_true rfl) (C.mono h ?_)
        rintro _ m24 ⟨rfl, hm25, h⟩
        refine ⟨none, rfl, ?_⟩
        refine r_iload (y := m11_data) dX11_data_40 rfl ?_
        refine r_if_ne (y := m11_data) (tgt := 55) dX11_data_42 (by decide) (fun hc26 => ?_) (fun hc26 => ?_)
        · have h := h.1 hc26
          refine r_aload_n (y := m11_data) dX11_data_55 rfl rfl ?_
          refine r_iconst (y := m11_data) (v := 1) dX11_data_56 (by decide) ?_
          refine r_iload_n (y := m11_data) dX11_data_57 rfl rfl ?_
          refine r_iload (y := m11_data) dX11_data_58 rfl ?_
          refine r_if_le (y := m11_data) (tgt := 67) dX11_data_60 (by decide) (fun hc27 => ?_) (fun hc27 => ?_)
          · have h := h.1 hc27
            refine r_iconst (y := m11_data) (v := (-1)) dX11_data_67 (by decide) ?_
            refine r_iload (y := m11_data) dX11_data_68 rfl ?_
            refine r_iconst (y := m11_data) (v := 1) dX11_data_70 (by decide) ?_
            refine r_icmp_le (y := m11_data) (tgt := 78) dX11_data_71 (by decide) (fun hc28 => ?_) (fun hc28 => ?_)
            · have h := h.1 hc28
              refine r_iconst (y := m11_data) (v := (-1)) dX11_data_78 (by decide) ?_
              rcases h with h | h
              · refine r_callX (y := m11_data) (As := [(.int 1), (.int a0), (.int (-1)), (.int (-1))]) (b := 0) (ci := 11) dX11_data_79 rfl k11_tell lm_X11_67 rfl ⟨by decide, by decide⟩ (so_0 hm25) (by decide) rfl (Nat.le_of_ble_eq_true rfl) h
              · refine r_callV (y := m11_data) (As := [(.int 1), (.int a0), (.int (-1)), (.int (-1))]) (b := 0) (ci := 11) dX11_data_79 rfl k11_tell lm_X11_67 rfl ⟨by decide, by decide⟩ (so_0 hm25) (by decide) rfl (Nat.le_of_ble_eq_true rfl) (C.mono h ?_)
                rintro _ m29 ⟨x31, rfl, hm30, h⟩
                refine ⟨_, rfl, ?_⟩
                exact r_iret (y := m11_data) dX11_data_82 rfl rfl h
            · have h := h.2 hc28
              refine r_iload_n (y := m11_data) dX11_data_74 rfl rfl ?_
              refine r_goto (y := m11_data) (tgt := 79) dX11_data_75 (by decide) ?_
              rcases h with h | h
              · refine r_callX (y := m11_data) (As := [(.int 1), (.int a0), (.int (-1)), (.int a2)]) (b := 0) (ci := 11) dX11_data_79 rfl k11_tell lm_X11_67 rfl ⟨by decide, by decide⟩ (so_0 hm25) (by decide) rfl (Nat.le_of_ble_eq_true rfl) h
              · refine r_callV (y := m11_data) (As := [(.int 1), (.int a0), (.int (-1)), (.int a2)]) (b := 0) (ci := 11) dX11_data_79 rfl k11_tell lm_X11_67 rfl ⟨by decide, by decide⟩ (so_0 hm25) (by decide) rfl (Nat.le_of_ble_eq_true rfl) (C.mono h ?_)
                rintro _ m32 ⟨x34, rfl, hm33, h⟩
                refine ⟨_, rfl, ?_⟩
                exact r_iret (y := m11_data) dX11_data_82 rfl rfl h
          · have h := h.2 hc27
            refine r_iload_n (y := m11_data) dX11_data_63 rfl rfl ?_
            refine r_goto (y := m11_data) (tgt := 68) dX11_data_64 (by decide) ?_
            refine r_iload (y := m11_data) dX11_data_68 rfl ?_
            refine r_iconst (y := m11_data) (v := 1) dX11_data_70 (by decide) ?_
            refine r_icmp_le (y := m11_data) (tgt := 78) dX11_data_71 (by decide) (fun hc35 => ?_) (fun hc35 => ?_)
            · have h := h.1 hc35
              refine r_iconst (y := m11_data) (v := (-1)) dX11_data_78 (by decide) ?_
              rcases h with h | h
              · refine r_callX (y := m11_data) (As := [(.int 1), (.int a0), (.int a1), (.int (-1))]) (b := 0) (ci := 11) dX11_data_79 rfl k11_tell lm_X11_67 rfl ⟨by decide, by decide⟩ (so_0 hm25) (by decide) rfl (Nat.le_of_ble_eq_true rfl) h
              · refine r_callV (y := m11_data) (As := [(.int 1), (.int a0), (.int a1), (.int (-1))]) (b := 0) (ci := 11) dX11_data_79 rfl k11_tell lm_X11_67 rfl ⟨by decide, by decide⟩ (so_0 hm25) (by decide) rfl (Nat.le_of_ble_eq_true rfl) (C.mono h ?_)
                rintro _ m36 ⟨x38, rfl, hm37, h⟩
                refine ⟨_, rfl, ?_⟩
                exact r_iret (y := m11_data) dX11_data_82 rfl rfl h
            · have h := h.2 hc35
              refine r_iload_n (y := m11_data) dX11_data_74 rfl rfl ?_
              refine r_goto (y := m11_data) (tgt := 79) dX11_data_75 (by decide) ?_
              rcases h with h | h
              · refine r_callX (y := m11_data) (As := [(.int 1), (.int a0), (.int a1), (.int a2)]) (b := 0) (ci := 11) dX11_data_79 rfl k11_tell lm_X11_67 rfl ⟨by decide, by decide⟩ (so_0 hm25) (by decide) rfl (Nat.le_of_ble_eq_true rfl) h
              · refine r_callV (y := m11_data) (As := [(.int 1), (.int a0), (.int a1), (.int a2)]) (b := 0) (ci := 11) dX11_data_79 rfl k11_tell lm_X11_67 rfl ⟨by decide, by decide⟩ (so_0 hm25) (by decide) rfl (Nat.le_of_ble_eq_true rfl) (C.mono h ?_)
                rintro _ m39 ⟨x41, rfl, hm40, h⟩
                refine ⟨_, rfl, ?_⟩
                exact r_iret (y := m11_data) dX11_data_82 rfl rfl h
        · have h := h.2 hc26
          exact r_throw (y := m11_data) (is := 79) (ic := 49) (text := "kinds are 0 to 5") dX11_data_45 dX11_data_48 dX11_data_49 dX11_data_51 dX11_data_54 rfl (by decide +kernel) x49_ok (by decide) (Nat.le_of_ble_eq_true rfl) h
  · have h := h.2 hc1
    refine r_iload_n (y := m11_data) dX11_data_4 rfl rfl ?_
    refine r_bipush (y := m11_data) (v := 6) dX11_data_5 (by decide) ?_
    refine r_icmp_ge (y := m11_data) (tgt := 14) dX11_data_7 (by decide) (fun hc42 => ?_) (fun hc42 => ?_)
    · have h := h.1 hc42
      refine r_iconst (y := m11_data) (v := 0) dX11_data_14 (by decide) ?_
      refine r_istore (y := m11_data) (L' := [some (.ref 0), some (.int a0), some (.int a1), some (.int a2), some (.int 0), none]) dX11_data_15 (Nat.le_of_ble_eq_true rfl) rfl ?_
      refine r_iload (y := m11_data) dX11_data_17 rfl ?_
      refine r_if_eq (y := m11_data) (tgt := 29) dX11_data_19 (by decide) (fun hc43 => ?_) (fun hc43 => ?_)
      · have h := h.1 hc43
        refine r_iconst (y := m11_data) (v := 0) dX11_data_29 (by decide) ?_
        refine r_istore (y := m11_data) (L' := [some (.ref 0), some (.int a0), some (.int a1), some (.int a2), some (.int 0), some (.int 0)]) dX11_data_30 (Nat.le_of_ble_eq_true rfl) rfl ?_
        refine r_aload_n (y := m11_data) dX11_data_32 rfl rfl ?_
        refine r_iload (y := m11_data) dX11_data_33 rfl ?_
        refine r_iload_n (y := m11_data) dX11_data_35 rfl rfl ?_
        refine r_iload_n (y := m11_data) dX11_data_36 rfl rfl ?_
        rcases h with h | h
        · refine r_callX (y := m11_data) (As := [(.int 0), (.int a1), (.int a2)]) (b := 0) (ci := 11) dX11_data_37 rfl k11_needParts lm_X11_75 rfl ⟨by decide, by decide⟩ (so_0 hm) (by decide) rfl (Nat.le_of_ble_eq_true rfl) h
        · refine r_callV (y := m11_data) (As := [(.int 0), (.int a1), (.int a2)]) (b := 0) (ci := 11) dX11_data_37 rfl k11_needParts lm_X11_75 rfl ⟨by decide, by decide⟩ (so_0 hm) (by decide) rfl (Nat.le_of_ble_eq_true rfl) (C.mono h ?_)
          rintro _ m44 ⟨rfl, hm45, h⟩
          refine ⟨none, rfl, ?_⟩
          refine r_iload (y := m11_data) dX11_data_40 rfl ?_
          refine r_if_ne (y := m11_data) (tgt := 55) dX11_data_42 (by decide) (fun hc46 => ?_) (fun hc46 => ?_)
          · have h := h.1 hc46
            refine r_aload_n (y := m11_data) dX11_data_55 rfl rfl ?_
            refine r_iconst (y := m11_data) (v := 1) dX11_data_56 (by decide) ?_
            refine r_iload_n (y := m11_data) dX11_data_57 rfl rfl ?_
            refine r_iload (y := m11_data) dX11_data_58 rfl ?_
            refine r_if_le (y := m11_data) (tgt := 67) dX11_data_60 (by decide) (fun hc47 => ?_) (fun hc47 => ?_)
            · have h := h.1 hc47
              refine r_iconst (y := m11_data) (v := (-1)) dX11_data_67 (by decide) ?_
              refine r_iload (y := m11_data) dX11_data_68 rfl ?_
              refine r_iconst (y := m11_data) (v := 1) dX11_data_70 (by decide) ?_
              refine r_icmp_le (y := m11_data) (tgt := 78) dX11_data_71 (by decide) (fun hc48 => ?_) (fun hc48 => ?_)
              · have h := h.1 hc48
                refine r_iconst (y := m11_data) (v := (-1)) dX11_data_78 (by decide) ?_
                rcases h with h | h
                · refine r_callX (y := m11_data) (As := [(.int 1), (.int a0), (.int (-1)), (.int (-1))]) (b := 0) (ci := 11) dX11_data_79 rfl k11_tell lm_X11_67 rfl ⟨by decide, by decide⟩ (so_0 hm45) (by decide) rfl (Nat.le_of_ble_eq_true rfl) h
                · refine r_callV (y := m11_data) (As := [(.int 1), (.int a0), (.int (-1)), (.int (-1))]) (b := 0) (ci := 11) dX11_data_79 rfl k11_tell lm_X11_67 rfl ⟨by decide, by decide⟩ (so_0 hm45) (by decide) rfl (Nat.le_of_ble_eq_true rfl) (C.mono h ?_)
                  rintro _ m49 ⟨x51, rfl, hm50, h⟩
                  refine ⟨_, rfl, ?_⟩
                  exact r_iret (y := m11_data) dX11_data_82 rfl rfl h
              · have h := h.2 hc48
                refine r_iload_n (y := m11_data) dX11_data_74 rfl rfl ?_
                refine r_goto (y := m11_data) (tgt := 79) dX11_data_75 (by decide) ?_
                rcases h with h | h
                · refine r_callX (y := m11_data) (As := [(.int 1), (.int a0), (.int (-1)), (.int a2)]) (b := 0) (ci := 11) dX11_data_79 rfl k11_tell lm_X11_67 rfl ⟨by decide, by decide⟩ (so_0 hm45) (by decide) rfl (Nat.le_of_ble_eq_true rfl) h
                · refine r_callV (y := m11_data) (As := [(.int 1), (.int a0), (.int (-1)), (.int a2)]) (b := 0) (ci := 11) dX11_data_79 rfl k11_tell lm_X11_67 rfl ⟨by decide, by decide⟩ (so_0 hm45) (by decide) rfl (Nat.le_of_ble_eq_true rfl) (C.mono h ?_)
                  rintro _ m52 ⟨x54, rfl, hm53, h⟩
                  refine ⟨_, rfl, ?_⟩
                  exact r_iret (y := m11_data) dX11_data_82 rfl rfl h
            · have h := h.2 hc47
              refine r_iload_n (y := m11_data) dX11_data_63 rfl rfl ?_
              refine r_goto (y := m11_data) (tgt := 68) dX11_data_64 (by decide) ?_
              refine r_iload (y := m11_data) dX11_data_68 rfl ?_
              refine r_iconst (y := m11_data) (v := 1) dX11_data_70 (by decide) ?_
              refine r_icmp_le (y := m11_data) (tgt := 78) dX11_data_71 (by decide) (fun hc55 => ?_) (fun hc55 => ?_)
              · have h := h.1 hc55
                refine r_iconst (y := m11_data) (v := (-1)) dX11_data_78 (by decide) ?_
                rcases h with h | h
                · refine r_callX (y := m11_data) (As := [(.int 1), (.int a0), (.int a1), (.int (-1))]) (b := 0) (ci := 11) dX11_data_79 rfl k11_tell lm_X11_67 rfl ⟨by decide, by decide⟩ (so_0 hm45) (by decide) rfl (Nat.le_of_ble_eq_true rfl) h
                · refine r_callV (y := m11_data) (As := [(.int 1), (.int a0), (.int a1), (.int (-1))]) (b := 0) (ci := 11) dX11_data_79 rfl k11_tell lm_X11_67 rfl ⟨by decide, by decide⟩ (so_0 hm45) (by decide) rfl (Nat.le_of_ble_eq_true rfl) (C.mono h ?_)
                  rintro _ m56 ⟨x58, rfl, hm57, h⟩
                  refine ⟨_, rfl, ?_⟩
                  exact r_iret (y := m11_data) dX11_data_82 rfl rfl h
              · have h := h.2 hc55
                refine r_iload_n (y := m11_data) dX11_data_74 rfl rfl ?_
                refine r_goto (y := m11_data) (tgt := 79) dX11_data_75 (by decide) ?_
                rcases h with h | h
                · refine r_callX (y := m11_data) (As := [(.int 1), (.int a0), (.int a1), (.int a2)]) (b := 0) (ci := 11) dX11_data_79 rfl k11_tell lm_X11_67 rfl ⟨by decide, by decide⟩ (so_0 hm45) (by decide) rfl (Nat.le_of_ble_eq_true rfl) h
                · refine r_callV (y := m11_data) (As := [(.int 1), (.int a0), (.int a1), (.int a2)]) (b := 0) (ci := 11) dX11_data_79 rfl k11_tell lm_X11_67 rfl ⟨by decide, by decide⟩ (so_0 hm45) (by decide) rfl (Nat.le_of_ble_eq_true rfl) (C.mono h ?_)
                  rintro _ m59 ⟨x61, rfl, hm60, h⟩
                  refine ⟨_, rfl, ?_⟩
                  exact r_iret (y := m11_data) dX11_data_82 rfl rfl h
          · have h := h.2 hc46
            exact r_throw (y := m11_data) (is := 79) (ic := 49) (text := "kinds are 0 to 5") dX11_data_45 dX11_data_48 dX11_data_49 dX11_data_51 dX11_data_54 rfl (by decide +kernel) x49_ok (by decide) (Nat.le_of_ble_eq_true rfl) h
      · have h := h.2 hc43
        refine r_iload_n (y := m11_data) dX11_data_22 rfl rfl ?_
        refine r_callS (y := m11_data) (As := [(.int a0)]) dX11_data_23 rfl k11_partsOfKind lm_X11_71 rfl ⟨by decide, by decide⟩ (Nat.le_of_ble_eq_true rfl) (C.mono h ?_)
        rintro _ m62 ⟨x64, rfl, hm63, h⟩
        refine ⟨_, rfl, ?_⟩
        refine r_goto (y := m11_data) (tgt := 30) dX11_data_26 (by decide) ?_
        refine r_istore (y := m11_data) (L' := [some (.ref 0), some (.int a0), some (.int a1), some (.int a2), some (.int 0), some (.int x64)]) dX11_data_30 (Nat.le_of_ble_eq_true rfl) rfl ?_
        refine r_aload_n (y := m11_data) dX11_data_32 rfl rfl ?_
        refine r_iload (y := m11_data) dX11_data_33 rfl ?_
        refine r_iload_n (y := m11_data) dX11_data_35 rfl rfl ?_
        refine r_iload_n (y := m11_data) dX11_data_36 rfl rfl ?_
        rcases h with h | h
        · refine r_callX (y := m11_data) (As := [(.int x64), (.int a1), (.int a2)]) (b := 0) (ci := 11) dX11_data_37 rfl k11_needParts lm_X11_75 rfl ⟨by decide, by decide⟩ (so_0 hm63) (by decide) rfl (Nat.le_of_ble_eq_true rfl) h
        · refine r_callV (y := m11_data) (As := [(.int x64), (.int a1), (.int a2)]) (b := 0) (ci := 11) dX11_data_37 rfl k11_needParts lm_X11_75 rfl ⟨by decide, by decide⟩ (so_0 hm63) (by decide) rfl (Nat.le_of_ble_eq_true rfl) (C.mono h ?_)
          rintro _ m65 ⟨rfl, hm66, h⟩
          refine ⟨none, rfl, ?_⟩
          refine r_iload (y := m11_data) dX11_data_40 rfl ?_
          refine r_if_ne (y := m11_data) (tgt := 55) dX11_data_42 (by decide) (fun hc67 => ?_) (fun hc67 => ?_)
          · have h := h.1 hc67
            refine r_aload_n (y := m11_data) dX11_data_55 rfl rfl ?_
            refine r_iconst (y := m11_data) (v := 1) dX11_data_56 (by decide) ?_
            refine r_iload_n (y := m11_data) dX11_data_57 rfl rfl ?_
            refine r_iload (y := m11_data) dX11_data_58 rfl ?_
            refine r_if_le (y := m11_data) (tgt := 67) dX11_data_60 (by decide) (fun hc68 => ?_) (fun hc68 => ?_)
            · have h := h.1 hc68
              refine r_iconst (y := m11_data) (v := (-1)) dX11_data_67 (by decide) ?_
              refine r_iload (y := m11_data) dX11_data_68 rfl ?_
              refine r_iconst (y := m11_data) (v := 1) dX11_data_70 (by decide) ?_
              refine r_icmp_le (y := m11_data) (tgt := 78) dX11_data_71 (by decide) (fun hc69 => ?_) (fun hc69 => ?_)
              · have h := h.1 hc69
                refine r_iconst (y := m11_data) (v := (-1)) dX11_data_78 (by decide) ?_
                rcases h with h | h
                · refine r_callX (y := m11_data) (As := [(.int 1), (.int a0), (.int (-1)), (.int (-1))]) (b := 0) (ci := 11) dX11_data_79 rfl k11_tell lm_X11_67 rfl ⟨by decide, by decide⟩ (so_0 hm66) (by decide) rfl (Nat.le_of_ble_eq_true rfl) h
                · refine r_callV (y := m11_data) (As := [(.int 1), (.int a0), (.int (-1)), (.int (-1))]) (b := 0) (ci := 11) dX11_data_79 rfl k11_tell lm_X11_67 rfl ⟨by decide, by decide⟩ (so_0 hm66) (by decide) rfl (Nat.le_of_ble_eq_true rfl) (C.mono h ?_)
                  rintro _ m70 ⟨x72, rfl, hm71, h⟩
                  refine ⟨_, rfl, ?_⟩
                  exact r_iret (y := m11_data) dX11_data_82 rfl rfl h
              · have h := h.2 hc69
                refine r_iload_n (y := m11_data) dX11_data_74 rfl rfl ?_
                refine r_goto (y := m11_data) (tgt := 79) dX11_data_75 (by decide) ?_
                rcases h with h | h
                · refine r_callX (y := m11_data) (As := [(.int 1), (.int a0), (.int (-1)), (.int a2)]) (b := 0) (ci := 11) dX11_data_79 rfl k11_tell lm_X11_67 rfl ⟨by decide, by decide⟩ (so_0 hm66) (by decide) rfl (Nat.le_of_ble_eq_true rfl) h
                · refine r_callV (y := m11_data) (As := [(.int 1), (.int a0), (.int (-1)), (.int a2)]) (b := 0) (ci := 11) dX11_data_79 rfl k11_tell lm_X11_67 rfl ⟨by decide, by decide⟩ (so_0 hm66) (by decide) rfl (Nat.le_of_ble_eq_true rfl) (C.mono h ?_)
                  rintro _ m73 ⟨x75, rfl, hm74, h⟩
                  refine ⟨_, rfl, ?_⟩
                  exact r_iret (y := m11_data) dX11_data_82 rfl rfl h
            · have h := h.2 hc68
              refine r_iload_n (y := m11_data) dX11_data_63 rfl rfl ?_
              refine r_goto (y := m11_data) (tgt := 68) dX11_data_64 (by decide) ?_
              refine r_iload (y := m11_data) dX11_data_68 rfl ?_
              refine r_iconst (y := m11_data) (v := 1) dX11_data_70 (by decide) ?_
              refine r_icmp_le (y := m11_data) (tgt := 78) dX11_data_71 (by decide) (fun hc76 => ?_) (fun hc76 => ?_)
              · have h := h.1 hc76
                refine r_iconst (y := m11_data) (v := (-1)) dX11_data_78 (by decide) ?_
                rcases h with h | h
                · refine r_callX (y := m11_data) (As := [(.int 1), (.int a0), (.int a1), (.int (-1))]) (b := 0) (ci := 11) dX11_data_79 rfl k11_tell lm_X11_67 rfl ⟨by decide, by decide⟩ (so_0 hm66) (by decide) rfl (Nat.le_of_ble_eq_true rfl) h
                · refine r_callV (y := m11_data) (As := [(.int 1), (.int a0), (.int a1), (.int (-1))]) (b := 0) (ci := 11) dX11_data_79 rfl k11_tell lm_X11_67 rfl ⟨by decide, by decide⟩ (so_0 hm66) (by decide) rfl (Nat.le_of_ble_eq_true rfl) (C.mono h ?_)
                  rintro _ m77 ⟨x79, rfl, hm78, h⟩
                  refine ⟨_, rfl, ?_⟩
                  exact r_iret (y := m11_data) dX11_data_82 rfl rfl h
              · have h := h.2 hc76
                refine r_iload_n (y := m11_data) dX11_data_74 rfl rfl ?_
                refine r_goto (y := m11_data) (tgt := 79) dX11_data_75 (by decide) ?_
                rcases h with h | h
                · refine r_callX (y := m11_data) (As := [(.int 1), (.int a0), (.int a1), (.int a2)]) (b := 0) (ci := 11) dX11_data_79 rfl k11_tell lm_X11_67 rfl ⟨by decide, by decide⟩ (so_0 hm66) (by decide) rfl (Nat.le_of_ble_eq_true rfl) h
                · refine r_callV (y := m11_data) (As := [(.int 1), (.int a0), (.int a1), (.int a2)]) (b := 0) (ci := 11) dX11_data_79 rfl k11_tell lm_X11_67 rfl ⟨by decide, by decide⟩ (so_0 hm66) (by decide) rfl (Nat.le_of_ble_eq_true rfl) (C.mono h ?_)
                  rintro _ m80 ⟨x82, rfl, hm81, h⟩
                  refine ⟨_, rfl, ?_⟩
                  exact r_iret (y := m11_data) dX11_data_82 rfl rfl h
          · have h := h.2 hc67
            exact r_throw (y := m11_data) (is := 79) (ic := 49) (text := "kinds are 0 to 5") dX11_data_45 dX11_data_48 dX11_data_49 dX11_data_51 dX11_data_54 rfl (by decide +kernel) x49_ok (by decide) (Nat.le_of_ble_eq_true rfl) h
    · have h := h.2 hc42
      refine r_iconst (y := m11_data) (v := 1) dX11_data_10 (by decide) ?_
      refine r_goto (y := m11_data) (tgt := 15) dX11_data_11 (by decide) ?_
      refine r_istore (y := m11_data) (L' := [some (.ref 0), some (.int a0), some (.int a1), some (.int a2), some (.int 1), none]) dX11_data_15 (Nat.le_of_ble_eq_true rfl) rfl ?_
      refine r_iload (y := m11_data) dX11_data_17 rfl ?_
      refine r_if_eq (y := m11_data) (tgt := 29) dX11_data_19 (by decide) (fun hc83 => ?_) (fun hc83 => ?_)
      · have h := h.1 hc83
        refine r_iconst (y := m11_data) (v := 0) dX11_data_29 (by decide) ?_
        refine r_istore (y := m11_data) (L' := [some (.ref 0), some (.int a0), some (.int a1), some (.int a2), some (.int 1), some (.int 0)]) dX11_data_30 (Nat.le_of_ble_eq_true rfl) rfl ?_
        refine r_aload_n (y := m11_data) dX11_data_32 rfl rfl ?_
        refine r_iload (y := m11_data) dX11_data_33 rfl ?_
        refine r_iload_n (y := m11_data) dX11_data_35 rfl rfl ?_
        refine r_iload_n (y := m11_data) dX11_data_36 rfl rfl ?_
        rcases h with h | h
        · refine r_callX (y := m11_data) (As := [(.int 0), (.int a1), (.int a2)]) (b := 0) (ci := 11) dX11_data_37 rfl k11_needParts lm_X11_75 rfl ⟨by decide, by decide⟩ (so_0 hm) (by decide) rfl (Nat.le_of_ble_eq_true rfl) h
        · refine r_callV (y := m11_data) (As := [(.int 0), (.int a1), (.int a2)]) (b := 0) (ci := 11) dX11_data_37 rfl k11_needParts lm_X11_75 rfl ⟨by decide, by decide⟩ (so_0 hm) (by decide) rfl (Nat.le_of_ble_eq_true rfl) (C.mono h ?_)
          rintro _ m84 ⟨rfl, hm85, h⟩
          refine ⟨none, rfl, ?_⟩
          refine r_iload (y := m11_data) dX11_data_40 rfl ?_
          refine r_if_ne (y := m11_data) (tgt := 55) dX11_data_42 (by decide) (fun hc86 => ?_) (fun hc86 => ?_)
          · have h := h.1 hc86
            refine r_aload_n (y := m11_data) dX11_data_55 rfl rfl ?_
            refine r_iconst (y := m11_data) (v := 1) dX11_data_56 (by decide) ?_
            refine r_iload_n (y := m11_data) dX11_data_57 rfl rfl ?_
            refine r_iload (y := m11_data) dX11_data_58 rfl ?_
            refine r_if_le (y := m11_data) (tgt := 67) dX11_data_60 (by decide) (fun hc87 => ?_) (fun hc87 => ?_)
            · have h := h.1 hc87
              refine r_iconst (y := m11_data) (v := (-1)) dX11_data_67 (by decide) ?_
              refine r_iload (y := m11_data) dX11_data_68 rfl ?_
              refine r_iconst (y := m11_data) (v := 1) dX11_data_70 (by decide) ?_
              refine r_icmp_le (y := m11_data) (tgt := 78) dX11_data_71 (by decide) (fun hc88 => ?_) (fun hc88 => ?_)
              · have h := h.1 hc88
                refine r_iconst (y := m11_data) (v := (-1)) dX11_data_78 (by decide) ?_
                rcases h with h | h
                · refine r_callX (y := m11_data) (As := [(.int 1), (.int a0), (.int (-1)), (.int (-1))]) (b := 0) (ci := 11) dX11_data_79 rfl k11_tell lm_X11_67 rfl ⟨by decide, by decide⟩ (so_0 hm85) (by decide) rfl (Nat.le_of_ble_eq_true rfl) h
                · refine r_callV (y := m11_data) (As := [(.int 1), (.int a0), (.int (-1)), (.int (-1))]) (b := 0) (ci := 11) dX11_data_79 rfl k11_tell lm_X11_67 rfl ⟨by decide, by decide⟩ (so_0 hm85) (by decide) rfl (Nat.le_of_ble_eq_true rfl) (C.mono h ?_)
                  rintro _ m89 ⟨x91, rfl, hm90, h⟩
                  refine ⟨_, rfl, ?_⟩
                  exact r_iret (y := m11_data) dX11_data_82 rfl rfl h
              · have h := h.2 hc88
                refine r_iload_n (y := m11_data) dX11_data_74 rfl rfl ?_
                refine r_goto (y := m11_data) (tgt := 79) dX11_data_75 (by decide) ?_
                rcases h with h | h
                · refine r_callX (y := m11_data) (As := [(.int 1), (.int a0), (.int (-1)), (.int a2)]) (b := 0) (ci := 11) dX11_data_79 rfl k11_tell lm_X11_67 rfl ⟨by decide, by decide⟩ (so_0 hm85) (by decide) rfl (Nat.le_of_ble_eq_true rfl) h
                · refine r_callV (y := m11_data) (As := [(.int 1), (.int a0), (.int (-1)), (.int a2)]) (b := 0) (ci := 11) dX11_data_79 rfl k11_tell lm_X11_67 rfl ⟨by decide, by decide⟩ (so_0 hm85) (by decide) rfl (Nat.le_of_ble_eq_true rfl) (C.mono h ?_)
                  rintro _ m92 ⟨x94, rfl, hm93, h⟩
                  refine ⟨_, rfl, ?_⟩
                  exact r_iret (y := m11_data) dX11_data_82 rfl rfl h
            · have h := h.2 hc87
              refine r_iload_n (y := m11_data) dX11_data_63 rfl rfl ?_
              refine r_goto (y := m11_data) (tgt := 68) dX11_data_64 (by decide) ?_
              refine r_iload (y := m11_data) dX11_data_68 rfl ?_
              refine r_iconst (y := m11_data) (v := 1) dX11_data_70 (by decide) ?_
              refine r_icmp_le (y := m11_data) (tgt := 78) dX11_data_71 (by decide) (fun hc95 => ?_) (fun hc95 => ?_)
              · have h := h.1 hc95
                refine r_iconst (y := m11_data) (v := (-1)) dX11_data_78 (by decide) ?_
                rcases h with h | h
                · refine r_callX (y := m11_data) (As := [(.int 1), (.int a0), (.int a1), (.int (-1))]) (b := 0) (ci := 11) dX11_data_79 rfl k11_tell lm_X11_67 rfl ⟨by decide, by decide⟩ (so_0 hm85) (by decide) rfl (Nat.le_of_ble_eq_true rfl) h
                · refine r_callV (y := m11_data) (As := [(.int 1), (.int a0), (.int a1), (.int (-1))]) (b := 0) (ci := 11) dX11_data_79 rfl k11_tell lm_X11_67 rfl ⟨by decide, by decide⟩ (so_0 hm85) (by decide) rfl (Nat.le_of_ble_eq_true rfl) (C.mono h ?_)
                  rintro _ m96 ⟨x98, rfl, hm97, h⟩
                  refine ⟨_, rfl, ?_⟩
                  exact r_iret (y := m11_data) dX11_data_82 rfl rfl h
              · have h := h.2 hc95
                refine r_iload_n (y := m11_data) dX11_data_74 rfl rfl ?_
                refine r_goto (y := m11_data) (tgt := 79) dX11_data_75 (by decide) ?_
                rcases h with h | h
                · refine r_callX (y := m11_data) (As := [(.int 1), (.int a0), (.int a1), (.int a2)]) (b := 0) (ci := 11) dX11_data_79 rfl k11_tell lm_X11_67 rfl ⟨by decide, by decide⟩ (so_0 hm85) (by decide) rfl (Nat.le_of_ble_eq_true rfl) h
                · refine r_callV (y := m11_data) (As := [(.int 1), (.int a0), (.int a1), (.int a2)]) (b := 0) (ci := 11) dX11_data_79 rfl k11_tell lm_X11_67 rfl ⟨by decide, by decide⟩ (so_0 hm85) (by decide) rfl (Nat.le_of_ble_eq_true rfl) (C.mono h ?_)
                  rintro _ m99 ⟨x101, rfl, hm100, h⟩
                  refine ⟨_, rfl, ?_⟩
                  exact r_iret (y := m11_data) dX11_data_82 rfl rfl h
          · have h := h.2 hc86
            exact r_throw (y := m11_data) (is := 79) (ic := 49) (text := "kinds are 0 to 5") dX11_data_45 dX11_data_48 dX11_data_49 dX11_data_51 dX11_data_54 rfl (by decide +kernel) x49_ok (by decide) (Nat.le_of_ble_eq_true rfl) h
      · have h := h.2 hc83
        refine r_iload_n (y := m11_data) dX11_data_22 rfl rfl ?_
        refine r_callS (y := m11_data) (As := [(.int a0)]) dX11_data_23 rfl k11_partsOfKind lm_X11_71 rfl ⟨by decide, by decide⟩ (Nat.le_of_ble_eq_true rfl) (C.mono h ?_)
        rintro _ m102 ⟨x104, rfl, hm103, h⟩
        refine ⟨_, rfl, ?_⟩
        refine r_goto (y := m11_data) (tgt := 30) dX11_data_26 (by decide) ?_
        refine r_istore (y := m11_data) (L' := [some (.ref 0), some (.int a0), some (.int a1), some (.int a2), some (.int 1), some (.int x104)]) dX11_data_30 (Nat.le_of_ble_eq_true rfl) rfl ?_
        refine r_aload_n (y := m11_data) dX11_data_32 rfl rfl ?_
        refine r_iload (y := m11_data) dX11_data_33 rfl ?_
        refine r_iload_n (y := m11_data) dX11_data_35 rfl rfl ?_
        refine r_iload_n (y := m11_data) dX11_data_36 rfl rfl ?_
        rcases h with h | h
        · refine r_callX (y := m11_data) (As := [(.int x104), (.int a1), (.int a2)]) (b := 0) (ci := 11) dX11_data_37 rfl k11_needParts lm_X11_75 rfl ⟨by decide, by decide⟩ (so_0 hm103) (by decide) rfl (Nat.le_of_ble_eq_true rfl) h
        · refine r_callV (y := m11_data) (As := [(.int x104), (.int a1), (.int a2)]) (b := 0) (ci := 11) dX11_data_37 rfl k11_needParts lm_X11_75 rfl ⟨by decide, by decide⟩ (so_0 hm103) (by decide) rfl (Nat.le_of_ble_eq_true rfl) (C.mono h ?_)
          rintro _ m105 ⟨rfl, hm106, h⟩
          refine ⟨none, rfl, ?_⟩
          refine r_iload (y := m11_data) dX11_data_40 rfl ?_
          refine r_if_ne (y := m11_data) (tgt := 55) dX11_data_42 (by decide) (fun hc107 => ?_) (fun hc107 => ?_)
          · have h := h.1 hc107
            refine r_aload_n (y := m11_data) dX11_data_55 rfl rfl ?_
            refine r_iconst (y := m11_data) (v := 1) dX11_data_56 (by decide) ?_
            refine r_iload_n (y := m11_data) dX11_data_57 rfl rfl ?_
            refine r_iload (y := m11_data) dX11_data_58 rfl ?_
            refine r_if_le (y := m11_data) (tgt := 67) dX11_data_60 (by decide) (fun hc108 => ?_) (fun hc108 => ?_)
            · have h := h.1 hc108
              refine r_iconst (y := m11_data) (v := (-1)) dX11_data_67 (by decide) ?_
              refine r_iload (y := m11_data) dX11_data_68 rfl ?_
              refine r_iconst (y := m11_data) (v := 1) dX11_data_70 (by decide) ?_
              refine r_icmp_le (y := m11_data) (tgt := 78) dX11_data_71 (by decide) (fun hc109 => ?_) (fun hc109 => ?_)
              · have h := h.1 hc109
                refine r_iconst (y := m11_data) (v := (-1)) dX11_data_78 (by decide) ?_
                rcases h with h | h
                · refine r_callX (y := m11_data) (As := [(.int 1), (.int a0), (.int (-1)), (.int (-1))]) (b := 0) (ci := 11) dX11_data_79 rfl k11_tell lm_X11_67 rfl ⟨by decide, by decide⟩ (so_0 hm106) (by decide) rfl (Nat.le_of_ble_eq_true rfl) h
                · refine r_callV (y := m11_data) (As := [(.int 1), (.int a0), (.int (-1)), (.int (-1))]) (b := 0) (ci := 11) dX11_data_79 rfl k11_tell lm_X11_67 rfl ⟨by decide, by decide⟩ (so_0 hm106) (by decide) rfl (Nat.le_of_ble_eq_true rfl) (C.mono h ?_)
                  rintro _ m110 ⟨x112, rfl, hm111, h⟩
                  refine ⟨_, rfl, ?_⟩
                  exact r_iret (y := m11_data) dX11_data_82 rfl rfl h
              · have h := h.2 hc109
                refine r_iload_n (y := m11_data) dX11_data_74 rfl rfl ?_
                refine r_goto (y := m11_data) (tgt := 79) dX11_data_75 (by decide) ?_
                rcases h with h | h
                · refine r_callX (y := m11_data) (As := [(.int 1), (.int a0), (.int (-1)), (.int a2)]) (b := 0) (ci := 11) dX11_data_79 rfl k11_tell lm_X11_67 rfl ⟨by decide, by decide⟩ (so_0 hm106) (by decide) rfl (Nat.le_of_ble_eq_true rfl) h
                · refine r_callV (y := m11_data) (As := [(.int 1), (.int a0), (.int (-1)), (.int a2)]) (b := 0) (ci := 11) dX11_data_79 rfl k11_tell lm_X11_67 rfl ⟨by decide, by decide⟩ (so_0 hm106) (by decide) rfl (Nat.le_of_ble_eq_true rfl) (C.mono h ?_)
                  rintro _ m113 ⟨x115, rfl, hm114, h⟩
                  refine ⟨_, rfl, ?_⟩
                  exact r_iret (y := m11_data) dX11_data_82 rfl rfl h
            · have h := h.2 hc108
              refine r_iload_n (y := m11_data) dX11_data_63 rfl rfl ?_
              refine r_goto (y := m11_data) (tgt := 68) dX11_data_64 (by decide) ?_
              refine r_iload (y := m11_data) dX11_data_68 rfl ?_
              refine r_iconst (y := m11_data) (v := 1) dX11_data_70 (by decide) ?_
              refine r_icmp_le (y := m11_data) (tgt := 78) dX11_data_71 (by decide) (fun hc116 => ?_) (fun hc116 => ?_)
              · have h := h.1 hc116
                refine r_iconst (y := m11_data) (v := (-1)) dX11_data_78 (by decide) ?_
                rcases h with h | h
                · refine r_callX (y := m11_data) (As := [(.int 1), (.int a0), (.int a1), (.int (-1))]) (b := 0) (ci := 11) dX11_data_79 rfl k11_tell lm_X11_67 rfl ⟨by decide, by decide⟩ (so_0 hm106) (by decide) rfl (Nat.le_of_ble_eq_true rfl) h
                · refine r_callV (y := m11_data) (As := [(.int 1), (.int a0), (.int a1), (.int (-1))]) (b := 0) (ci := 11) dX11_data_79 rfl k11_tell lm_X11_67 rfl ⟨by decide, by decide⟩ (so_0 hm106) (by decide) rfl (Nat.le_of_ble_eq_true rfl) (C.mono h ?_)
                  rintro _ m117 ⟨x119, rfl, hm118, h⟩
                  refine ⟨_, rfl, ?_⟩
                  exact r_iret (y := m11_data) dX11_data_82 rfl rfl h
              · have h := h.2 hc116
                refine r_iload_n (y := m11_data) dX11_data_74 rfl rfl ?_
                refine r_goto (y := m11_data) (tgt := 79) dX11_data_75 (by decide) ?_
                rcases h with h | h
                · refine r_callX (y := m11_data) (As := [(.int 1), (.int a0), (.int a1), (.int a2)]) (b := 0) (ci := 11) dX11_data_79 rfl k11_tell lm_X11_67 rfl ⟨by decide, by decide⟩ (so_0 hm106) (by decide) rfl (Nat.le_of_ble_eq_true rfl) h
                · refine r_callV (y := m11_data) (As := [(.int 1), (.int a0), (.int a1), (.int a2)]) (b := 0) (ci := 11) dX11_data_79 rfl k11_tell lm_X11_67 rfl ⟨by decide, by decide⟩ (so_0 hm106) (by decide) rfl (Nat.le_of_ble_eq_true rfl) (C.mono h ?_)
                  rintro _ m120 ⟨x122, rfl, hm121, h⟩
                  refine ⟨_, rfl, ?_⟩
                  exact r_iret (y := m11_data) dX11_data_82 rfl rfl h
          · have h := h.2 hc107
            exact r_throw (y := m11_data) (is := 79) (ic := 49) (text := "kinds are 0 to 5") dX11_data_45 dX11_data_48 dX11_data_49 dX11_data_51 dX11_data_54 rfl (by decide +kernel) x49_ok (by decide) (Nat.le_of_ble_eq_true rfl) h
set_option maxHeartbeats 4000000 in
set_option maxRecDepth 100000 in
theorem w11_call {m : Mm} {K : Option Value ⊕ String → Mm → Prop} (hm : St m) {a0 : Int32} {a1 : Int32} {a2 : Int32}  (h : (C m11_needFunction [(.ref 0), (.int a0)] m (fun o m1 => ∃ E, o = .inr E ∧ K (.inr E) m1) ∨ C m11_needFunction [(.ref 0), (.int a0)] m (fun o m1 => o = .inl none ∧ St m1 ∧ C m5_partsOf [(.ref 7), (.int a0)] m1 (fun o m3 => ∃ x5 : Int32, o = .inl (some (.int x5)) ∧ St m3 ∧ (C m11_needParts [(.ref 0), (.int x5), (.int a1), (.int a2)] m3 (fun o m1 => ∃ E, o = .inr E ∧ K (.inr E) m1) ∨ C m11_needParts [(.ref 0), (.int x5), (.int a1), (.int a2)] m3 (fun o m6 => o = .inl none ∧ St m6 ∧ ((x5 ≤ 0 → ((x5 ≤ 1 → (C m11_tell [(.ref 0), (.int 2), (.int a0), (.int (-1)), (.int (-1))] m6 (fun o m1 => ∃ E, o = .inr E ∧ K (.inr E) m1) ∨ C m11_tell [(.ref 0), (.int 2), (.int a0), (.int (-1)), (.int (-1))] m6 (fun o m10 => ∃ x12 : Int32, o = .inl (some (.int x12)) ∧ St m10 ∧ K (.inl (some (.int x12))) m10))) ∧ (¬ x5 ≤ 1 → (C m11_tell [(.ref 0), (.int 2), (.int a0), (.int (-1)), (.int a2)] m6 (fun o m1 => ∃ E, o = .inr E ∧ K (.inr E) m1) ∨ C m11_tell [(.ref 0), (.int 2), (.int a0), (.int (-1)), (.int a2)] m6 (fun o m13 => ∃ x15 : Int32, o = .inl (some (.int x15)) ∧ St m13 ∧ K (.inl (some (.int x15))) m13))))) ∧ (¬ x5 ≤ 0 → ((x5 ≤ 1 → (C m11_tell [(.ref 0), (.int 2), (.int a0), (.int a1), (.int (-1))] m6 (fun o m1 => ∃ E, o = .inr E ∧ K (.inr E) m1) ∨ C m11_tell [(.ref 0), (.int 2), (.int a0), (.int a1), (.int (-1))] m6 (fun o m17 => ∃ x19 : Int32, o = .inl (some (.int x19)) ∧ St m17 ∧ K (.inl (some (.int x19))) m17))) ∧ (¬ x5 ≤ 1 → (C m11_tell [(.ref 0), (.int 2), (.int a0), (.int a1), (.int a2)] m6 (fun o m1 => ∃ E, o = .inr E ∧ K (.inr E) m1) ∨ C m11_tell [(.ref 0), (.int 2), (.int a0), (.int a1), (.int a2)] m6 (fun o m20 => ∃ x22 : Int32, o = .inl (some (.int x22)) ∧ St m20 ∧ K (.inl (some (.int x22))) m20)))))))))))) : V m11_call 0 [some (.ref 0), some (.int a0), some (.int a1), some (.int a2), none] [] m K := by
  refine r_aload_n (y := m11_call) dX11_call_0 rfl rfl ?_
  refine r_iload_n (y := m11_call) dX11_call_1 rfl rfl ?_
  rcases h with h | h
  · refine r_callX (y := m11_call) (As := [(.int a0)]) (b := 0) (ci := 11) dX11_call_2 rfl k11_needFunction lm_X11_81 rfl ⟨by decide, by decide⟩ (so_0 hm) (by decide) rfl (Nat.le_of_ble_eq_true rfl) h
  · refine r_callV (y := m11_call) (As := [(.int a0)]) (b := 0) (ci := 11) dX11_call_2 rfl k11_needFunction lm_X11_81 rfl ⟨by decide, by decide⟩ (so_0 hm) (by decide) rfl (Nat.le_of_ble_eq_true rfl) (C.mono h ?_)
    rintro _ m1 ⟨rfl, hm2, h⟩
    refine ⟨none, rfl, ?_⟩
    refine r_aload_n (y := m11_call) dX11_call_5 rfl rfl ?_
    refine g_X11_19 (y := m11_call) rfl dX11_call_6 hm2 ?_
    refine r_iload_n (y := m11_call) dX11_call_9 rfl rfl ?_
    refine r_callVN (y := m11_call) (As := [(.int a0)]) (b := 7) (ci := 5) dX11_call_10 rfl k5_partsOf lm_X11_85 rfl ⟨by decide, by decide⟩ (so_7 hm2) (by decide) rfl (Nat.le_of_ble_eq_true rfl) (C.mono h ?_)
    rintro _ m3 ⟨x5, rfl, hm4, h⟩
    refine ⟨_, rfl, ?_⟩
    refine r_istore (y := m11_call) (L' := [some (.ref 0), some (.int a0), some (.int a1), some (.int a2), some (.int x5)]) dX11_call_13 (Nat.le_of_ble_eq_true rfl) rfl ?_
    refine r_aload_n (y := m11_call) dX11_call_15 rfl rfl ?_
    refine r_iload (y := m11_call) dX11_call_16 rfl ?_
    refine r_iload_n (y := m11_call) dX11_call_18 rfl rfl ?_
    refine r_iload_n (y := m11_call) dX11_call_19 rfl rfl ?_
    rcases h with h | h
    · refine r_callX (y := m11_call) (As := [(.int x5), (.int a1), (.int a2)]) (b := 0) (ci := 11) dX11_call_20 rfl k11_needParts lm_X11_75 rfl ⟨by decide, by decide⟩ (so_0 hm4) (by decide) rfl (Nat.le_of_ble_eq_true rfl) h
    · refine r_callV (y := m11_call) (As := [(.int x5), (.int a1), (.int a2)]) (b := 0) (ci := 11) dX11_call_20 rfl k11_needParts lm_X11_75 rfl ⟨by decide, by decide⟩ (so_0 hm4) (by decide) rfl (Nat.le_of_ble_eq_true rfl) (C.mono h ?_)
      rintro _ m6 ⟨rfl, hm7, h⟩
      refine ⟨none, rfl, ?_⟩
      refine r_aload_n (y := m11_call) dX11_call_23 rfl rfl ?_
      refine r_iconst (y := m11_call) (v := 2) dX11_call_24 (by decide) ?_
      refine r_iload_n (y := m11_call) dX11_call_25 rfl rfl ?_
      refine r_iload (y := m11_call) dX11_call_26 rfl ?_
      refine r_if_le (y := m11_call) (tgt := 35) dX11_call_28 (by decide) (fun hc8 => ?_) (fun hc8 => ?_)
      · have h := h.1 hc8
        refine r_iconst (y := m11_call) (v := (-1)) dX11_call_35 (by decide) ?_
        refine r_iload (y := m11_call) dX11_call_36 rfl ?_
        refine r_iconst (y := m11_call) (v := 1) dX11_call_38 (by decide) ?_
        refine r_icmp_le (y := m11_call) (tgt := 46) dX11_call_39 (by decide) (fun hc9 => ?_) (fun hc9 => ?_)
        · have h := h.1 hc9
          refine r_iconst (y := m11_call) (v := (-1)) dX11_call_46 (by decide) ?_
          rcases h with h | h
          · refine r_callX (y := m11_call) (As := [(.int 2), (.int a0), (.int (-1)), (.int (-1))]) (b := 0) (ci := 11) dX11_call_47 rfl k11_tell lm_X11_67 rfl ⟨by decide, by decide⟩ (so_0 hm7) (by decide) rfl (Nat.le_of_ble_eq_true rfl) h
          · refine r_callV (y := m11_call) (As := [(.int 2), (.int a0), (.int (-1)), (.int (-1))]) (b := 0) (ci := 11) dX11_call_47 rfl k11_tell lm_X11_67 rfl ⟨by decide, by decide⟩ (so_0 hm7) (by decide) rfl (Nat.le_of_ble_eq_true rfl) (C.mono h ?_)
            rintro _ m10 ⟨x12, rfl, hm11, h⟩
            refine ⟨_, rfl, ?_⟩
            exact r_iret (y := m11_call) dX11_call_50 rfl rfl h
        · have h := h.2 hc9
          refine r_iload_n (y := m11_call) dX11_call_42 rfl rfl ?_
          refine r_goto (y := m11_call) (tgt := 47) dX11_call_43 (by decide) ?_
          rcases h with h | h
          · refine r_callX (y := m11_call) (As := [(.int 2), (.int a0), (.int (-1)), (.int a2)]) (b := 0) (ci := 11) dX11_call_47 rfl k11_tell lm_X11_67 rfl ⟨by decide, by decide⟩ (so_0 hm7) (by decide) rfl (Nat.le_of_ble_eq_true rfl) h
          · refine r_callV (y := m11_call) (As := [(.int 2), (.int a0), (.int (-1)), (.int a2)]) (b := 0) (ci := 11) dX11_call_47 rfl k11_tell lm_X11_67 rfl ⟨by decide, by decide⟩ (so_0 hm7) (by decide) rfl (Nat.le_of_ble_eq_true rfl) (C.mono h ?_)
            rintro _ m13 ⟨x15, rfl, hm14, h⟩
            refine ⟨_, rfl, ?_⟩
            exact r_iret (y := m11_call) dX11_call_50 rfl rfl h
      · have h := h.2 hc8
        refine r_iload_n (y := m11_call) dX11_call_31 rfl rfl ?_
        refine r_goto (y := m11_call) (tgt := 36) dX11_call_32 (by decide) ?_
        refine r_iload (y := m11_call) dX11_call_36 rfl ?_
        refine r_iconst (y := m11_call) (v := 1) dX11_call_38 (by decide) ?_
        refine r_icmp_le (y := m11_call) (tgt := 46) dX11_call_39 (by decide) (fun hc16 => ?_) (fun hc16 => ?_)
        · have h := h.1 hc16
          refine r_iconst (y := m11_call) (v := (-1)) dX11_call_46 (by decide) ?_
          rcases h with h | h
          · refine r_callX (y := m11_call) (As := [(.int 2), (.int a0), (.int a1), (.int (-1))]) (b := 0) (ci := 11) dX11_call_47 rfl k11_tell lm_X11_67 rfl ⟨by decide, by decide⟩ (so_0 hm7) (by decide) rfl (Nat.le_of_ble_eq_true rfl) h
          · refine r_callV (y := m11_call) (As := [(.int 2), (.int a0), (.int a1), (.int (-1))]) (b := 0) (ci := 11) dX11_call_47 rfl k11_tell lm_X11_67 rfl ⟨by decide, by decide⟩ (so_0 hm7) (by decide) rfl (Nat.le_of_ble_eq_true rfl) (C.mono h ?_)
            rintro _ m17 ⟨x19, rfl, hm18, h⟩
            refine ⟨_, rfl, ?_⟩
            exact r_iret (y := m11_call) dX11_call_50 rfl rfl h
        · have h := h.2 hc16
          refine r_iload_n (y := m11_call) dX11_call_42 rfl rfl ?_
          refine r_goto (y := m11_call) (tgt := 47) dX11_call_43 (by decide) ?_
          rcases h with h | h
          · refine r_callX (y := m11_call) (As := [(.int 2), (.int a0), (.int a1), (.int a2)]) (b := 0) (ci := 11) dX11_call_47 rfl k11_tell lm_X11_67 rfl ⟨by decide, by decide⟩ (so_0 hm7) (by decide) rfl (Nat.le_of_ble_eq_true rfl) h
          · refine r_callV (y := m11_call) (As := [(.int 2), (.int a0), (.int a1), (.int a2)]) (b := 0) (ci := 11) dX11_call_47 rfl k11_tell lm_X11_67 rfl ⟨by decide, by decide⟩ (so_0 hm7) (by decide) rfl (Nat.le_of_ble_eq_true rfl) (C.mono h ?_)
            rintro _ m20 ⟨x22, rfl, hm21, h⟩
            refine ⟨_, rfl, ?_⟩
            exact r_iret (y := m11_call) dX11_call_50 rfl rfl h
set_option maxHeartbeats 4000000 in
set_option maxRecDepth 100000 in
theorem w11_either {m : Mm} {K : Option Value ⊕ String → Mm → Prop} (hm : St m) {a0 : Int32} {a1 : Int32}  (h : (C m11_needParts [(.ref 0), (.int 2), (.int a0), (.int a1)] m (fun o m1 => ∃ E, o = .inr E ∧ K (.inr E) m1) ∨ C m11_needParts [(.ref 0), (.int 2), (.int a0), (.int a1)] m (fun o m1 => o = .inl none ∧ St m1 ∧ (C m11_tell [(.ref 0), (.int 3), (.int 0), (.int a0), (.int a1)] m1 (fun o m1 => ∃ E, o = .inr E ∧ K (.inr E) m1) ∨ C m11_tell [(.ref 0), (.int 3), (.int 0), (.int a0), (.int a1)] m1 (fun o m3 => ∃ x5 : Int32, o = .inl (some (.int x5)) ∧ St m3 ∧ K (.inl (some (.int x5))) m3))))) : V m11_either 0 [some (.ref 0), some (.int a0), some (.int a1)] [] m K := by
  refine r_aload_n (y := m11_either) dX11_either_0 rfl rfl ?_
  refine r_iconst (y := m11_either) (v := 2) dX11_either_1 (by decide) ?_
  refine r_iload_n (y := m11_either) dX11_either_2 rfl rfl ?_
  refine r_iload_n (y := m11_either) dX11_either_3 rfl rfl ?_
  rcases h with h | h
  · refine r_callX (y := m11_either) (As := [(.int 2), (.int a0), (.int a1)]) (b := 0) (ci := 11) dX11_either_4 rfl k11_needParts lm_X11_75 rfl ⟨by decide, by decide⟩ (so_0 hm) (by decide) rfl (Nat.le_of_ble_eq_true rfl) h
  · refine r_callV (y := m11_either) (As := [(.int 2), (.int a0), (.int a1)]) (b := 0) (ci := 11) dX11_either_4 rfl k11_needParts lm_X11_75 rfl ⟨by decide, by decide⟩ (so_0 hm) (by decide) rfl (Nat.le_of_ble_eq_true rfl) (C.mono h ?_)
    rintro _ m1 ⟨rfl, hm2, h⟩
    refine ⟨none, rfl, ?_⟩
    refine r_aload_n (y := m11_either) dX11_either_7 rfl rfl ?_
    refine r_iconst (y := m11_either) (v := 3) dX11_either_8 (by decide) ?_
    refine r_iconst (y := m11_either) (v := 0) dX11_either_9 (by decide) ?_
    refine r_iload_n (y := m11_either) dX11_either_10 rfl rfl ?_
    refine r_iload_n (y := m11_either) dX11_either_11 rfl rfl ?_
    rcases h with h | h
    · refine r_callX (y := m11_either) (As := [(.int 3), (.int 0), (.int a0), (.int a1)]) (b := 0) (ci := 11) dX11_either_12 rfl k11_tell lm_X11_67 rfl ⟨by decide, by decide⟩ (so_0 hm2) (by decide) rfl (Nat.le_of_ble_eq_true rfl) h
    · refine r_callV (y := m11_either) (As := [(.int 3), (.int 0), (.int a0), (.int a1)]) (b := 0) (ci := 11) dX11_either_12 rfl k11_tell lm_X11_67 rfl ⟨by decide, by decide⟩ (so_0 hm2) (by decide) rfl (Nat.le_of_ble_eq_true rfl) (C.mono h ?_)
      rintro _ m3 ⟨x5, rfl, hm4, h⟩
      refine ⟨_, rfl, ?_⟩
      exact r_iret (y := m11_either) dX11_either_15 rfl rfl h
set_option maxHeartbeats 4000000 in
set_option maxRecDepth 100000 in
theorem w11_same {m : Mm} {K : Option Value ⊕ String → Mm → Prop} (hm : St m) {a0 : Int32} {a1 : Int32}  (h : (C m11_needParts [(.ref 0), (.int 2), (.int a0), (.int a1)] m (fun o m1 => ∃ E, o = .inr E ∧ K (.inr E) m1) ∨ C m11_needParts [(.ref 0), (.int 2), (.int a0), (.int a1)] m (fun o m1 => o = .inl none ∧ St m1 ∧ (C m11_tell [(.ref 0), (.int 4), (.int 0), (.int a0), (.int a1)] m1 (fun o m1 => ∃ E, o = .inr E ∧ K (.inr E) m1) ∨ C m11_tell [(.ref 0), (.int 4), (.int 0), (.int a0), (.int a1)] m1 (fun o m3 => ∃ x5 : Int32, o = .inl (some (.int x5)) ∧ St m3 ∧ K (.inl (some (.int x5))) m3))))) : V m11_same 0 [some (.ref 0), some (.int a0), some (.int a1)] [] m K := by
  refine r_aload_n (y := m11_same) dX11_same_0 rfl rfl ?_
  refine r_iconst (y := m11_same) (v := 2) dX11_same_1 (by decide) ?_
  refine r_iload_n (y := m11_same) dX11_same_2 rfl rfl ?_
  refine r_iload_n (y := m11_same) dX11_same_3 rfl rfl ?_
  rcases h with h | h
  · refine r_callX (y := m11_same) (As := [(.int 2), (.int a0), (.int a1)]) (b := 0) (ci := 11) dX11_same_4 rfl k11_needParts lm_X11_75 rfl ⟨by decide, by decide⟩ (so_0 hm) (by decide) rfl (Nat.le_of_ble_eq_true rfl) h
  · refine r_callV (y := m11_same) (As := [(.int 2), (.int a0), (.int a1)]) (b := 0) (ci := 11) dX11_same_4 rfl k11_needParts lm_X11_75 rfl ⟨by decide, by decide⟩ (so_0 hm) (by decide) rfl (Nat.le_of_ble_eq_true rfl) (C.mono h ?_)
    rintro _ m1 ⟨rfl, hm2, h⟩
    refine ⟨none, rfl, ?_⟩
    refine r_aload_n (y := m11_same) dX11_same_7 rfl rfl ?_
    refine r_iconst (y := m11_same) (v := 4) dX11_same_8 (by decide) ?_
    refine r_iconst (y := m11_same) (v := 0) dX11_same_9 (by decide) ?_
    refine r_iload_n (y := m11_same) dX11_same_10 rfl rfl ?_
    refine r_iload_n (y := m11_same) dX11_same_11 rfl rfl ?_
    rcases h with h | h
    · refine r_callX (y := m11_same) (As := [(.int 4), (.int 0), (.int a0), (.int a1)]) (b := 0) (ci := 11) dX11_same_12 rfl k11_tell lm_X11_67 rfl ⟨by decide, by decide⟩ (so_0 hm2) (by decide) rfl (Nat.le_of_ble_eq_true rfl) h
    · refine r_callV (y := m11_same) (As := [(.int 4), (.int 0), (.int a0), (.int a1)]) (b := 0) (ci := 11) dX11_same_12 rfl k11_tell lm_X11_67 rfl ⟨by decide, by decide⟩ (so_0 hm2) (by decide) rfl (Nat.le_of_ble_eq_true rfl) (C.mono h ?_)
      rintro _ m3 ⟨x5, rfl, hm4, h⟩
      refine ⟨_, rfl, ?_⟩
      exact r_iret (y := m11_same) dX11_same_15 rfl rfl h
set_option maxHeartbeats 4000000 in
set_option maxRecDepth 100000 in
theorem w11_unlike {m : Mm} {K : Option Value ⊕ String → Mm → Prop} (hm : St m) {a0 : Int32} {a1 : Int32}  (h : (C m11_needParts [(.ref 0), (.int 2), (.int a0), (.int a1)] m (fun o m1 => ∃ E, o = .inr E ∧ K (.inr E) m1) ∨ C m11_needParts [(.ref 0), (.int 2), (.int a0), (.int a1)] m (fun o m1 => o = .inl none ∧ St m1 ∧ (C m11_tell [(.ref 0), (.int 5), (.int 0), (.int a0), (.int a1)] m1 (fun o m1 => ∃ E, o = .inr E ∧ K (.inr E) m1) ∨ C m11_tell [(.ref 0), (.int 5), (.int 0), (.int a0), (.int a1)] m1 (fun o m3 => ∃ x5 : Int32, o = .inl (some (.int x5)) ∧ St m3 ∧ K (.inl (some (.int x5))) m3))))) : V m11_unlike 0 [some (.ref 0), some (.int a0), some (.int a1)] [] m K := by
  refine r_aload_n (y := m11_unlike) dX11_unlike_0 rfl rfl ?_
  refine r_iconst (y := m11_unlike) (v := 2) dX11_unlike_1 (by decide) ?_
  refine r_iload_n (y := m11_unlike) dX11_unlike_2 rfl rfl ?_
  refine r_iload_n (y := m11_unlike) dX11_unlike_3 rfl rfl ?_
  rcases h with h | h
  · refine r_callX (y := m11_unlike) (As := [(.int 2), (.int a0), (.int a1)]) (b := 0) (ci := 11) dX11_unlike_4 rfl k11_needParts lm_X11_75 rfl ⟨by decide, by decide⟩ (so_0 hm) (by decide) rfl (Nat.le_of_ble_eq_true rfl) h
  · refine r_callV (y := m11_unlike) (As := [(.int 2), (.int a0), (.int a1)]) (b := 0) (ci := 11) dX11_unlike_4 rfl k11_needParts lm_X11_75 rfl ⟨by decide, by decide⟩ (so_0 hm) (by decide) rfl (Nat.le_of_ble_eq_true rfl) (C.mono h ?_)
    rintro _ m1 ⟨rfl, hm2, h⟩
    refine ⟨none, rfl, ?_⟩
    refine r_aload_n (y := m11_unlike) dX11_unlike_7 rfl rfl ?_
    refine r_iconst (y := m11_unlike) (v := 5) dX11_unlike_8 (by decide) ?_
    refine r_iconst (y := m11_unlike) (v := 0) dX11_unlike_9 (by decide) ?_
    refine r_iload_n (y := m11_unlike) dX11_unlike_10 rfl rfl ?_
    refine r_iload_n (y := m11_unlike) dX11_unlike_11 rfl rfl ?_
    rcases h with h | h
    · refine r_callX (y := m11_unlike) (As := [(.int 5), (.int 0), (.int a0), (.int a1)]) (b := 0) (ci := 11) dX11_unlike_12 rfl k11_tell lm_X11_67 rfl ⟨by decide, by decide⟩ (so_0 hm2) (by decide) rfl (Nat.le_of_ble_eq_true rfl) h
    · refine r_callV (y := m11_unlike) (As := [(.int 5), (.int 0), (.int a0), (.int a1)]) (b := 0) (ci := 11) dX11_unlike_12 rfl k11_tell lm_X11_67 rfl ⟨by decide, by decide⟩ (so_0 hm2) (by decide) rfl (Nat.le_of_ble_eq_true rfl) (C.mono h ?_)
      rintro _ m3 ⟨x5, rfl, hm4, h⟩
      refine ⟨_, rfl, ?_⟩
      exact r_iret (y := m11_unlike) dX11_unlike_15 rfl rfl h
set_option maxHeartbeats 4000000 in
set_option maxRecDepth 100000 in
theorem w11_some {m : Mm} {K : Option Value ⊕ String → Mm → Prop} (hm : St m) {a0 : Int32}  (h : (C m11_needParts [(.ref 0), (.int 1), (.int a0), (.int (-1))] m (fun o m1 => ∃ E, o = .inr E ∧ K (.inr E) m1) ∨ C m11_needParts [(.ref 0), (.int 1), (.int a0), (.int (-1))] m (fun o m1 => o = .inl none ∧ St m1 ∧ (C m11_tell [(.ref 0), (.int 6), (.int 0), (.int a0), (.int (-1))] m1 (fun o m1 => ∃ E, o = .inr E ∧ K (.inr E) m1) ∨ C m11_tell [(.ref 0), (.int 6), (.int 0), (.int a0), (.int (-1))] m1 (fun o m3 => ∃ x5 : Int32, o = .inl (some (.int x5)) ∧ St m3 ∧ K (.inl (some (.int x5))) m3))))) : V m11_some 0 [some (.ref 0), some (.int a0)] [] m K := by
  refine r_aload_n (y := m11_some) dX11_some_0 rfl rfl ?_
  refine r_iconst (y := m11_some) (v := 1) dX11_some_1 (by decide) ?_
  refine r_iload_n (y := m11_some) dX11_some_2 rfl rfl ?_
  refine r_iconst (y := m11_some) (v := (-1)) dX11_some_3 (by decide) ?_
  rcases h with h | h
  · refine r_callX (y := m11_some) (As := [(.int 1), (.int a0), (.int (-1))]) (b := 0) (ci := 11) dX11_some_4 rfl k11_needParts lm_X11_75 rfl ⟨by decide, by decide⟩ (so_0 hm) (by decide) rfl (Nat.le_of_ble_eq_true rfl) h
  · refine r_callV (y := m11_some) (As := [(.int 1), (.int a0), (.int (-1))]) (b := 0) (ci := 11) dX11_some_4 rfl k11_needParts lm_X11_75 rfl ⟨by decide, by decide⟩ (so_0 hm) (by decide) rfl (Nat.le_of_ble_eq_true rfl) (C.mono h ?_)
    rintro _ m1 ⟨rfl, hm2, h⟩
    refine ⟨none, rfl, ?_⟩
    refine r_aload_n (y := m11_some) dX11_some_7 rfl rfl ?_
    refine r_bipush (y := m11_some) (v := 6) dX11_some_8 (by decide) ?_
    refine r_iconst (y := m11_some) (v := 0) dX11_some_10 (by decide) ?_
    refine r_iload_n (y := m11_some) dX11_some_11 rfl rfl ?_
    refine r_iconst (y := m11_some) (v := (-1)) dX11_some_12 (by decide) ?_
    rcases h with h | h
    · refine r_callX (y := m11_some) (As := [(.int 6), (.int 0), (.int a0), (.int (-1))]) (b := 0) (ci := 11) dX11_some_13 rfl k11_tell lm_X11_67 rfl ⟨by decide, by decide⟩ (so_0 hm2) (by decide) rfl (Nat.le_of_ble_eq_true rfl) h
    · refine r_callV (y := m11_some) (As := [(.int 6), (.int 0), (.int a0), (.int (-1))]) (b := 0) (ci := 11) dX11_some_13 rfl k11_tell lm_X11_67 rfl ⟨by decide, by decide⟩ (so_0 hm2) (by decide) rfl (Nat.le_of_ble_eq_true rfl) (C.mono h ?_)
      rintro _ m3 ⟨x5, rfl, hm4, h⟩
      refine ⟨_, rfl, ?_⟩
      exact r_iret (y := m11_some) dX11_some_16 rfl rfl h
set_option maxHeartbeats 4000000 in
set_option maxRecDepth 100000 in
theorem w11_drop {m : Mm} {K : Option Value ⊕ String → Mm → Prop} (hm : St m)   (h : K (.inl (some (.int (mI m 1 5)))) (mSetI m 1 5 0)) : V m11_drop 0 [some (.ref 0), none] [] m K := by
  refine r_aload_n (y := m11_drop) dX11_drop_0 rfl rfl ?_
  refine g_X11_12 (y := m11_drop) rfl dX11_drop_1 hm ?_
  refine g_X11_88 (y := m11_drop) rfl dX11_drop_4 hm ?_
  refine r_istore_n (y := m11_drop) (L' := [some (.ref 0), some (.int (mI m 1 5))]) dX11_drop_7 rfl (Nat.le_of_ble_eq_true rfl) rfl ?_
  refine r_aload_n (y := m11_drop) dX11_drop_8 rfl rfl ?_
  refine g_X11_12 (y := m11_drop) rfl dX11_drop_9 hm ?_
  refine r_iconst (y := m11_drop) (v := 0) dX11_drop_12 (by decide) ?_
  refine p_X11_88 (y := m11_drop) rfl dX11_drop_13 hm ?_
  refine r_iload_n (y := m11_drop) dX11_drop_16 rfl rfl ?_
  exact r_iret (y := m11_drop) dX11_drop_17 rfl rfl h
set_option maxHeartbeats 4000000 in
set_option maxRecDepth 100000 in
theorem w11_rule {m : Mm} {K : Option Value ⊕ String → Mm → Prop} (hm : St m) {a0 : Int32} {a1 : Int32} {a2 : Int32} {a3 : Int32}  (h : (C m11_needFunction [(.ref 0), (.int a0)] m (fun o m1 => ∃ E, o = .inr E ∧ K (.inr E) m1) ∨ C m11_needFunction [(.ref 0), (.int a0)] m (fun o m1 => o = .inl none ∧ St m1 ∧ C m5_partsOf [(.ref 7), (.int a0)] m1 (fun o m3 => ∃ x5 : Int32, o = .inl (some (.int x5)) ∧ St m3 ∧ (C m11_needParts [(.ref 0), (.int x5), (.int a1), (.int a2)] m3 (fun o m1 => ∃ E, o = .inr E ∧ K (.inr E) m1) ∨ C m11_needParts [(.ref 0), (.int x5), (.int a1), (.int a2)] m3 (fun o m6 => o = .inl none ∧ St m6 ∧ (C m11_needParts [(.ref 0), (.int 1), (.int a3), (.int (-1))] m6 (fun o m1 => ∃ E, o = .inr E ∧ K (.inr E) m1) ∨ C m11_needParts [(.ref 0), (.int 1), (.int a3), (.int (-1))] m6 (fun o m8 => o = .inl none ∧ St m8 ∧ ((x5 ≤ 0 → ((x5 ≤ 1 → C m0_init [(.ref (mN (mNew m8 6 0 5))), (.ref 1), (.int a3)] (mNew (mNew m8 6 0 5) 0 0 7) (fun o m14 => o = .inl none ∧ St m14 ∧ C m6_init [(.ref (mN m8)), .null, .null, (.ref (mN (mNew m8 6 0 5)))] m14 (fun o m16 => o = .inl none ∧ St m16 ∧ isRul m16 (mN m8) ∧ ((¬ (mI m16 (mN m8) 4) = 0 → (((mI m16 7 5) < 24 → C m5_addRule [(.ref 7), (.int a0), (.ref (mN m8))] m16 (fun o m21 => ∃ x23 : Int32, o = .inl (some (.int x23)) ∧ St m21 ∧ K (.inl (some (.int x23))) m21)) ∧ (¬ (mI m16 7 5) < 24 → K (.inr "java/lang/IllegalStateException") (mWaste m16 1 6)))) ∧ ((mI m16 (mN m8) 4) = 0 → K (.inr "java/lang/IllegalArgumentException") (mWaste m16 1 6)))))) ∧ (¬ x5 ≤ 1 → C m0_init [(.ref (mN (mNew m8 6 0 5))), (.ref 1), (.int a2)] (mNew (mNew m8 6 0 5) 0 0 7) (fun o m25 => o = .inl none ∧ St m25 ∧ C m0_init [(.ref (mN m25)), (.ref 1), (.int a3)] (mNew m25 0 0 7) (fun o m28 => o = .inl none ∧ St m28 ∧ C m6_init [(.ref (mN m8)), .null, (.ref (mN (mNew m8 6 0 5))), (.ref (mN m25))] m28 (fun o m30 => o = .inl none ∧ St m30 ∧ isRul m30 (mN m8) ∧ ((¬ (mI m30 (mN m8) 4) = 0 → (((mI m30 7 5) < 24 → C m5_addRule [(.ref 7), (.int a0), (.ref (mN m8))] m30 (fun o m35 => ∃ x37 : Int32, o = .inl (some (.int x37)) ∧ St m35 ∧ K (.inl (some (.int x37))) m35)) ∧ (¬ (mI m30 7 5) < 24 → K (.inr "java/lang/IllegalStateException") (mWaste m30 1 6)))) ∧ ((mI m30 (mN m8) 4) = 0 → K (.inr "java/lang/IllegalArgumentException") (mWaste m30 1 6))))))))) ∧ (¬ x5 ≤ 0 → C m0_init [(.ref (mN (mNew m8 6 0 5))), (.ref 1), (.int a1)] (mNew (mNew m8 6 0 5) 0 0 7) (fun o m39 => o = .inl none ∧ St m39 ∧ ((x5 ≤ 1 → C m0_init [(.ref (mN m39)), (.ref 1), (.int a3)] (mNew m39 0 0 7) (fun o m43 => o = .inl none ∧ St m43 ∧ C m6_init [(.ref (mN m8)), (.ref (mN (mNew m8 6 0 5))), .null, (.ref (mN m39))] m43 (fun o m45 => o = .inl none ∧ St m45 ∧ isRul m45 (mN m8) ∧ ((¬ (mI m45 (mN m8) 4) = 0 → (((mI m45 7 5) < 24 → C m5_addRule [(.ref 7), (.int a0), (.ref (mN m8))] m45 (fun o m50 => ∃ x52 : Int32, o = .inl (some (.int x52)) ∧ St m50 ∧ K (.inl (some (.int x52))) m50)) ∧ (¬ (mI m45 7 5) < 24 → K (.inr "java/lang/IllegalStateException") (mWaste m45 1 6)))) ∧ ((mI m45 (mN m8) 4) = 0 → K (.inr "java/lang/IllegalArgumentException") (mWaste m45 1 6)))))) ∧ (¬ x5 ≤ 1 → C m0_init [(.ref (mN m39)), (.ref 1), (.int a2)] (mNew m39 0 0 7) (fun o m54 => o = .inl none ∧ St m54 ∧ C m0_init [(.ref (mN m54)), (.ref 1), (.int a3)] (mNew m54 0 0 7) (fun o m57 => o = .inl none ∧ St m57 ∧ C m6_init [(.ref (mN m8)), (.ref (mN (mNew m8 6 0 5))), (.ref (mN m39)), (.ref (mN m54))] m57 (fun o m59 => o = .inl none ∧ St m59 ∧ isRul m59 (mN m8) ∧ ((¬ (mI m59 (mN m8) 4) = 0 → (((mI m59 7 5) < 24 → C m5_addRule [(.ref 7), (.int a0), (.ref (mN m8))] m59 (fun o m64 => ∃ x66 : Int32, o = .inl (some (.int x66)) ∧ St m64 ∧ K (.inl (some (.int x66))) m64)) ∧ (¬ (mI m59 7 5) < 24 → K (.inr "java/lang/IllegalStateException") (mWaste m59 1 6)))) ∧ ((mI m59 (mN m8) 4) = 0 → K (.inr "java/lang/IllegalArgumentException") (mWaste m59 1 6))))))))))))))))))) : V m11_rule 0 [some (.ref 0), some (.int a0), some (.int a1), some (.int a2), some (.int a3), none, none] [] m K := by
  refine r_aload_n (y := m11_rule) dX11_rule_0 rfl rfl ?_
  refine r_iload_n (y := m11_rule) dX11_rule_1 rfl rfl ?_
  rcases h with h | h
  · refine r_callX (y := m11_rule) (As := [(.int a0)]) (b := 0) (ci := 11) dX11_rule_2 rfl k11_needFunction lm_X11_81 rfl ⟨by decide, by decide⟩ (so_0 hm) (by decide) rfl (Nat.le_of_ble_eq_true rfl) h
  · refine r_callV (y := m11_rule) (As := [(.int a0)]) (b := 0) (ci := 11) dX11_rule_2 rfl k11_needFunction lm_X11_81 rfl ⟨by decide, by decide⟩ (so_0 hm) (by decide) rfl (Nat.le_of_ble_eq_true rfl) (C.mono h ?_)
    rintro _ m1 ⟨rfl, hm2, h⟩
    refine ⟨none, rfl, ?_⟩
    refine r_aload_n (y := m11_rule) dX11_rule_5 rfl rfl ?_
    refine g_X11_19 (y := m11_rule) rfl dX11_rule_6 hm2 ?_
    refine r_iload_n (y := m11_rule) dX11_rule_9 rfl rfl ?_
    refine r_callVN (y := m11_rule) (As := [(.int a0)]) (b := 7) (ci := 5) dX11_rule_10 rfl k5_partsOf lm_X11_85 rfl ⟨by decide, by decide⟩ (so_7 hm2) (by decide) rfl (Nat.le_of_ble_eq_true rfl) (C.mono h ?_)
    rintro _ m3 ⟨x5, rfl, hm4, h⟩
    refine ⟨_, rfl, ?_⟩
    refine r_istore (y := m11_rule) (L' := [some (.ref 0), some (.int a0), some (.int a1), some (.int a2), some (.int a3), some (.int x5), none]) dX11_rule_13 (Nat.le_of_ble_eq_true rfl) rfl ?_
    refine r_aload_n (y := m11_rule) dX11_rule_15 rfl rfl ?_
    refine r_iload (y := m11_rule) dX11_rule_16 rfl ?_
    refine r_iload_n (y := m11_rule) dX11_rule_18 rfl rfl ?_
    refine r_iload_n (y := m11_rule) dX11_rule_19 rfl rfl ?_
    rcases h with h | h
    · refine r_callX (y := m11_rule) (As := [(.int x5), (.int a1), (.int a2)]) (b := 0) (ci := 11) dX11_rule_20 rfl k11_needParts lm_X11_75 rfl ⟨by decide, by decide⟩ (so_0 hm4) (by decide) rfl (Nat.le_of_ble_eq_true rfl) h
    · refine r_callV (y := m11_rule) (As := [(.int x5), (.int a1), (.int a2)]) (b := 0) (ci := 11) dX11_rule_20 rfl k11_needParts lm_X11_75 rfl ⟨by decide, by decide⟩ (so_0 hm4) (by decide) rfl (Nat.le_of_ble_eq_true rfl) (C.mono h ?_)
      rintro _ m6 ⟨rfl, hm7, h⟩
      refine ⟨none, rfl, ?_⟩
      refine r_aload_n (y := m11_rule) dX11_rule_23 rfl rfl ?_
      refine r_iconst (y := m11_rule) (v := 1) dX11_rule_24 (by decide) ?_
      refine r_iload (y := m11_rule) dX11_rule_25 rfl ?_
      refine r_iconst (y := m11_rule) (v := (-1)) dX11_rule_27 (by decide) ?_
      rcases h with h | h
      · refine r_callX (y := m11_rule) (As := [(.int 1), (.int a3), (.int (-1))]) (b := 0) (ci := 11) dX11_rule_28 rfl k11_needParts lm_X11_75 rfl ⟨by decide, by decide⟩ (so_0 hm7) (by decide) rfl (Nat.le_of_ble_eq_true rfl) h
      · refine r_callV (y := m11_rule) (As := [(.int 1), (.int a3), (.int (-1))]) (b := 0) (ci := 11) dX11_rule_28 rfl k11_needParts lm_X11_75 rfl ⟨by decide, by decide⟩ (so_0 hm7) (by decide) rfl (Nat.le_of_ble_eq_true rfl) (C.mono h ?_)
        rintro _ m8 ⟨rfl, hm9, h⟩
        refine ⟨none, rfl, ?_⟩
        refine r_new (y := m11_rule) (ci := 6) dX11_rule_31 (by decide) (by decide +kernel) (by decide +kernel) (by decide +kernel) ?_
        have hm10 := St.new hm9 (kd := 6) (len := 0) (z := 5)
        refine r_dup_r (y := m11_rule) dX11_rule_34 ?_
        refine r_iload (y := m11_rule) dX11_rule_35 rfl ?_
        refine r_if_le (y := m11_rule) (tgt := 55) dX11_rule_37 (by decide) (fun hc11 => ?_) (fun hc11 => ?_)
        · have h := h.1 hc11
          refine r_null (y := m11_rule) dX11_rule_55 ?_
          refine r_iload (y := m11_rule) dX11_rule_56 rfl ?_
          refine r_iconst (y := m11_rule) (v := 1) dX11_rule_58 (by decide) ?_
          refine r_icmp_le (y := m11_rule) (tgt := 77) dX11_rule_59 (by decide) (fun hc12 => ?_) (fun hc12 => ?_)
          · have h := h.1 hc12
            refine r_null (y := m11_rule) dX11_rule_77 ?_
            refine r_new (y := m11_rule) (ci := 0) dX11_rule_78 (by decide) (by decide +kernel) (by decide +kernel) (by decide +kernel) ?_
            have hm13 := St.new hm10 (kd := 0) (len := 0) (z := 7)
            refine r_dup_r (y := m11_rule) dX11_rule_81 ?_
            refine r_aload_n (y := m11_rule) dX11_rule_82 rfl rfl ?_
            refine g_X11_12 (y := m11_rule) rfl dX11_rule_83 hm13 ?_
            refine r_iload (y := m11_rule) dX11_rule_86 rfl ?_
            refine r_callIN (y := m11_rule) (As := [(.ref 1), (.int a3)]) (b := (mN (mNew m8 6 0 5))) dX11_rule_88 rfl k0_init lm_X11_95 rfl ⟨by decide, by decide⟩ (Nat.le_of_ble_eq_true rfl) (C.mono h ?_)
            rintro _ m14 ⟨rfl, hm15, h⟩
            refine ⟨none, rfl, ?_⟩
            refine r_callIN (y := m11_rule) (As := [.null, .null, (.ref (mN (mNew m8 6 0 5)))]) (b := (mN m8)) dX11_rule_91 rfl k6_init lm_X11_98 rfl ⟨by decide, by decide⟩ (Nat.le_of_ble_eq_true rfl) (C.mono h ?_)
            rintro _ m16 ⟨rfl, hm17, h⟩
            refine ⟨none, rfl, ?_⟩
            refine r_astore (y := m11_rule) (L' := [some (.ref 0), some (.int a0), some (.int a1), some (.int a2), some (.int a3), some (.int x5), some (.ref (mN m8))]) dX11_rule_94 (Nat.le_of_ble_eq_true rfl) rfl ?_
            refine r_aload (y := m11_rule) dX11_rule_96 rfl ?_
            obtain ⟨hx18, h⟩ := h
            refine g_X11_101 (y := m11_rule) rfl dX11_rule_98 hx18 ?_
            refine r_if_ne (y := m11_rule) (tgt := 114) dX11_rule_101 (by decide) (fun hc19 => ?_) (fun hc19 => ?_)
            · have h := h.1 hc19
              refine r_aload_n (y := m11_rule) dX11_rule_114 rfl rfl ?_
              refine g_X11_19 (y := m11_rule) rfl dX11_rule_115 hm17 ?_
              refine g_X11_107 (y := m11_rule) rfl dX11_rule_118 hm17 ?_
              refine r_bipush (y := m11_rule) (v := 24) dX11_rule_121 (by decide) ?_
              refine r_icmp_lt (y := m11_rule) (tgt := 136) dX11_rule_123 (by decide) (fun hc20 => ?_) (fun hc20 => ?_)
              · have h := h.1 hc20
                refine r_aload_n (y := m11_rule) dX11_rule_136 rfl rfl ?_
                refine g_X11_19 (y := m11_rule) rfl dX11_rule_137 hm17 ?_
                refine r_iload_n (y := m11_rule) dX11_rule_140 rfl rfl ?_
                refine r_aload (y := m11_rule) dX11_rule_141 rfl ?_
                refine r_callVN (y := m11_rule) (As := [(.int a0), (.ref (mN m8))]) (b := 7) (ci := 5) dX11_rule_143 rfl k5_addRule lm_X11_112 rfl ⟨by decide, by decide⟩ (so_7 hm17) (by decide) rfl (Nat.le_of_ble_eq_true rfl) (C.mono h ?_)
                rintro _ m21 ⟨x23, rfl, hm22, h⟩
                refine ⟨_, rfl, ?_⟩
                exact r_iret (y := m11_rule) dX11_rule_146 rfl rfl h
              · have h := h.2 hc20
                exact r_throw (y := m11_rule) (is := 110) (ic := 60) (text := "there are 24 rules") dX11_rule_126 dX11_rule_129 dX11_rule_130 dX11_rule_132 dX11_rule_135 rfl (by decide +kernel) x60_ok (by decide) (Nat.le_of_ble_eq_true rfl) h
            · have h := h.2 hc19
              exact r_throw (y := m11_rule) (is := 105) (ic := 49) (text := "a pattern is of names and data, each name once") dX11_rule_104 dX11_rule_107 dX11_rule_108 dX11_rule_110 dX11_rule_113 rfl (by decide +kernel) x49_ok (by decide) (Nat.le_of_ble_eq_true rfl) h
          · have h := h.2 hc12
            refine r_new (y := m11_rule) (ci := 0) dX11_rule_62 (by decide) (by decide +kernel) (by decide +kernel) (by decide +kernel) ?_
            have hm24 := St.new hm10 (kd := 0) (len := 0) (z := 7)
            refine r_dup_r (y := m11_rule) dX11_rule_65 ?_
            refine r_aload_n (y := m11_rule) dX11_rule_66 rfl rfl ?_
            refine g_X11_12 (y := m11_rule) rfl dX11_rule_67 hm24 ?_
            refine r_iload_n (y := m11_rule) dX11_rule_70 rfl rfl ?_
            refine r_callIN (y := m11_rule) (As := [(.ref 1), (.int a2)]) (b := (mN (mNew m8 6 0 5))) dX11_rule_71 rfl k0_init lm_X11_95 rfl ⟨by decide, by decide⟩ (Nat.le_of_ble_eq_true rfl) (C.mono h ?_)
            rintro _ m25 ⟨rfl, hm26, h⟩
            refine ⟨none, rfl, ?_⟩
            refine r_goto (y := m11_rule) (tgt := 78) dX11_rule_74 (by decide) ?_
            refine r_new (y := m11_rule) (ci := 0) dX11_rule_78 (by decide) (by decide +kernel) (by decide +kernel) (by decide +kernel) ?_
            have hm27 := St.new hm26 (kd := 0) (len := 0) (z := 7)
            refine r_dup_r (y := m11_rule) dX11_rule_81 ?_
            refine r_aload_n (y := m11_rule) dX11_rule_82 rfl rfl ?_
            refine g_X11_12 (y := m11_rule) rfl dX11_rule_83 hm27 ?_
            refine r_iload (y := m11_rule) dX11_rule_86 rfl ?_
            refine r_callIN (y := m11_rule) (As := [(.ref 1), (.int a3)]) (b := (mN m25)) dX11_rule_88 rfl k0_init lm_X11_95 rfl ⟨by decide, by decide⟩ (Nat.le_of_ble_eq_true rfl) (C.mono h ?_)
            rintro _ m28 ⟨rfl, hm29, h⟩
            refine ⟨none, rfl, ?_⟩
            refine r_callIN (y := m11_rule) (As := [.null, (.ref (mN (mNew m8 6 0 5))), (.ref (mN m25))]) (b := (mN m8)) dX11_rule_91 rfl k6_init lm_X11_98 rfl ⟨by decide, by decide⟩ (Nat.le_of_ble_eq_true rfl) (C.mono h ?_)
            rintro _ m30 ⟨rfl, hm31, h⟩
            refine ⟨none, rfl, ?_⟩
            refine r_astore (y := m11_rule) (L' := [some (.ref 0), some (.int a0), some (.int a1), some (.int a2), some (.int a3), some (.int x5), some (.ref (mN m8))]) dX11_rule_94 (Nat.le_of_ble_eq_true rfl) rfl ?_
            refine r_aload (y := m11_rule) dX11_rule_96 rfl ?_
            obtain ⟨hx32, h⟩ := h
            refine g_X11_101 (y := m11_rule) rfl dX11_rule_98 hx32 ?_
            refine r_if_ne (y := m11_rule) (tgt := 114) dX11_rule_101 (by decide) (fun hc33 => ?_) (fun hc33 => ?_)
            · have h := h.1 hc33
              refine r_aload_n (y := m11_rule) dX11_rule_114 rfl rfl ?_
              refine g_X11_19 (y := m11_rule) rfl dX11_rule_115 hm31 ?_
              refine g_X11_107 (y := m11_rule) rfl dX11_rule_118 hm31 ?_
              refine r_bipush (y := m11_rule) (v := 24) dX11_rule_121 (by decide) ?_
              refine r_icmp_lt (y := m11_rule) (tgt := 136) dX11_rule_123 (by decide) (fun hc34 => ?_) (fun hc34 => ?_)
              · have h := h.1 hc34
                refine r_aload_n (y := m11_rule) dX11_rule_136 rfl rfl ?_
                refine g_X11_19 (y := m11_rule) rfl dX11_rule_137 hm31 ?_
                refine r_iload_n (y := m11_rule) dX11_rule_140 rfl rfl ?_
                refine r_aload (y := m11_rule) dX11_rule_141 rfl ?_
                refine r_callVN (y := m11_rule) (As := [(.int a0), (.ref (mN m8))]) (b := 7) (ci := 5) dX11_rule_143 rfl k5_addRule lm_X11_112 rfl ⟨by decide, by decide⟩ (so_7 hm31) (by decide) rfl (Nat.le_of_ble_eq_true rfl) (C.mono h ?_)
                rintro _ m35 ⟨x37, rfl, hm36, h⟩
                refine ⟨_, rfl, ?_⟩
                exact r_iret (y := m11_rule) dX11_rule_146 rfl rfl h
              · have h := h.2 hc34
                exact r_throw (y := m11_rule) (is := 110) (ic := 60) (text := "there are 24 rules") dX11_rule_126 dX11_rule_129 dX11_rule_130 dX11_rule_132 dX11_rule_135 rfl (by decide +kernel) x60_ok (by decide) (Nat.le_of_ble_eq_true rfl) h
            · have h := h.2 hc33
              exact r_throw (y := m11_rule) (is := 105) (ic := 49) (text := "a pattern is of names and data, each name once") dX11_rule_104 dX11_rule_107 dX11_rule_108 dX11_rule_110 dX11_rule_113 rfl (by decide +kernel) x49_ok (by decide) (Nat.le_of_ble_eq_true rfl) h
        · have h := h.2 hc11
          refine r_new (y := m11_rule) (ci := 0) dX11_rule_40 (by decide) (by decide +kernel) (by decide +kernel) (by decide +kernel) ?_
          have hm38 := St.new hm10 (kd := 0) (len := 0) (z := 7)
          refine r_dup_r (y := m11_rule) dX11_rule_43 ?_
          refine r_aload_n (y := m11_rule) dX11_rule_44 rfl rfl ?_
          refine g_X11_12 (y := m11_rule) rfl dX11_rule_45 hm38 ?_
          refine r_iload_n (y := m11_rule) dX11_rule_48 rfl rfl ?_
          refine r_callIN (y := m11_rule) (As := [(.ref 1), (.int a1)]) (b := (mN (mNew m8 6 0 5))) dX11_rule_49 rfl k0_init lm_X11_95 rfl ⟨by decide, by decide⟩ (Nat.le_of_ble_eq_true rfl) (C.mono h ?_)
          rintro _ m39 ⟨rfl, hm40, h⟩
          refine ⟨none, rfl, ?_⟩
          refine r_goto (y := m11_rule) (tgt := 56) dX11_rule_52 (by decide) ?_
          refine r_iload (y := m11_rule) dX11_rule_56 rfl ?_
          refine r_iconst (y := m11_rule) (v := 1) dX11_rule_58 (by decide) ?_
          refine r_icmp_le (y := m11_rule) (tgt := 77) dX11_rule_59 (by decide) (fun hc41 => ?_) (fun hc41 => ?_)
          · have h := h.1 hc41
            refine r_null (y := m11_rule) dX11_rule_77 ?_
            refine r_new (y := m11_rule) (ci := 0) dX11_rule_78 (by decide) (by decide +kernel) (by decide +kernel) (by decide +kernel) ?_
            have hm42 := St.new hm40 (kd := 0) (len := 0) (z := 7)
            refine r_dup_r (y := m11_rule) dX11_rule_81 ?_
            refine r_aload_n (y := m11_rule) dX11_rule_82 rfl rfl ?_
            refine g_X11_12 (y := m11_rule) rfl dX11_rule_83 hm42 ?_
            refine r_iload (y := m11_rule) dX11_rule_86 rfl ?_
            refine r_callIN (y := m11_rule) (As := [(.ref 1), (.int a3)]) (b := (mN m39)) dX11_rule_88 rfl k0_init lm_X11_95 rfl ⟨by decide, by decide⟩ (Nat.le_of_ble_eq_true rfl) (C.mono h ?_)
            rintro _ m43 ⟨rfl, hm44, h⟩
            refine ⟨none, rfl, ?_⟩
            refine r_callIN (y := m11_rule) (As := [(.ref (mN (mNew m8 6 0 5))), .null, (.ref (mN m39))]) (b := (mN m8)) dX11_rule_91 rfl k6_init lm_X11_98 rfl ⟨by decide, by decide⟩ (Nat.le_of_ble_eq_true rfl) (C.mono h ?_)
            rintro _ m45 ⟨rfl, hm46, h⟩
            refine ⟨none, rfl, ?_⟩
            refine r_astore (y := m11_rule) (L' := [some (.ref 0), some (.int a0), some (.int a1), some (.int a2), some (.int a3), some (.int x5), some (.ref (mN m8))]) dX11_rule_94 (Nat.le_of_ble_eq_true rfl) rfl ?_
            refine r_aload (y := m11_rule) dX11_rule_96 rfl ?_
            obtain ⟨hx47, h⟩ := h
            refine g_X11_101 (y := m11_rule) rfl dX11_rule_98 hx47 ?_
            refine r_if_ne (y := m11_rule) (tgt := 114) dX11_rule_101 (by decide) (fun hc48 => ?_) (fun hc48 => ?_)
            · have h := h.1 hc48
              refine r_aload_n (y := m11_rule) dX11_rule_114 rfl rfl ?_
              refine g_X11_19 (y := m11_rule) rfl dX11_rule_115 hm46 ?_
              refine g_X11_107 (y := m11_rule) rfl dX11_rule_118 hm46 ?_
              refine r_bipush (y := m11_rule) (v := 24) dX11_rule_121 (by decide) ?_
              refine r_icmp_lt (y := m11_rule) (tgt := 136) dX11_rule_123 (by decide) (fun hc49 => ?_) (fun hc49 => ?_)
              · have h := h.1 hc49
                refine r_aload_n (y := m11_rule) dX11_rule_136 rfl rfl ?_
                refine g_X11_19 (y := m11_rule) rfl dX11_rule_137 hm46 ?_
                refine r_iload_n (y := m11_rule) dX11_rule_140 rfl rfl ?_
                refine r_aload (y := m11_rule) dX11_rule_141 rfl ?_
                refine r_callVN (y := m11_rule) (As := [(.int a0), (.ref (mN m8))]) (b := 7) (ci := 5) dX11_rule_143 rfl k5_addRule lm_X11_112 rfl ⟨by decide, by decide⟩ (so_7 hm46) (by decide) rfl (Nat.le_of_ble_eq_true rfl) (C.mono h ?_)
                rintro _ m50 ⟨x52, rfl, hm51, h⟩
                refine ⟨_, rfl, ?_⟩
                exact r_iret (y := m11_rule) dX11_rule_146 rfl rfl h
              · have h := h.2 hc49
                exact r_throw (y := m11_rule) (is := 110) (ic := 60) (text := "there are 24 rules") dX11_rule_126 dX11_rule_129 dX11_rule_130 dX11_rule_132 dX11_rule_135 rfl (by decide +kernel) x60_ok (by decide) (Nat.le_of_ble_eq_true rfl) h
            · have h := h.2 hc48
              exact r_throw (y := m11_rule) (is := 105) (ic := 49) (text := "a pattern is of names and data, each name once") dX11_rule_104 dX11_rule_107 dX11_rule_108 dX11_rule_110 dX11_rule_113 rfl (by decide +kernel) x49_ok (by decide) (Nat.le_of_ble_eq_true rfl) h
          · have h := h.2 hc41
            refine r_new (y := m11_rule) (ci := 0) dX11_rule_62 (by decide) (by decide +kernel) (by decide +kernel) (by decide +kernel) ?_
            have hm53 := St.new hm40 (kd := 0) (len := 0) (z := 7)
            refine r_dup_r (y := m11_rule) dX11_rule_65 ?_
            refine r_aload_n (y := m11_rule) dX11_rule_66 rfl rfl ?_
            refine g_X11_12 (y := m11_rule) rfl dX11_rule_67 hm53 ?_
            refine r_iload_n (y := m11_rule) dX11_rule_70 rfl rfl ?_
            refine r_callIN (y := m11_rule) (As := [(.ref 1), (.int a2)]) (b := (mN m39)) dX11_rule_71 rfl k0_init lm_X11_95 rfl ⟨by decide, by decide⟩ (Nat.le_of_ble_eq_true rfl) (C.mono h ?_)
            rintro _ m54 ⟨rfl, hm55, h⟩
            refine ⟨none, rfl, ?_⟩
            refine r_goto (y := m11_rule) (tgt := 78) dX11_rule_74 (by decide) ?_
            refine r_new (y := m11_rule) (ci := 0) dX11_rule_78 (by decide) (by decide +kernel) (by decide +kernel) (by decide +kernel) ?_
            have hm56 := St.new hm55 (kd := 0) (len := 0) (z := 7)
            refine r_dup_r (y := m11_rule) dX11_rule_81 ?_
            refine r_aload_n (y := m11_rule) dX11_rule_82 rfl rfl ?_
            refine g_X11_12 (y := m11_rule) rfl dX11_rule_83 hm56 ?_
            refine r_iload (y := m11_rule) dX11_rule_86 rfl ?_
            refine r_callIN (y := m11_rule) (As := [(.ref 1), (.int a3)]) (b := (mN m54)) dX11_rule_88 rfl k0_init lm_X11_95 rfl ⟨by decide, by decide⟩ (Nat.le_of_ble_eq_true rfl) (C.mono h ?_)
            rintro _ m57 ⟨rfl, hm58, h⟩
            refine ⟨none, rfl, ?_⟩
            refine r_callIN (y := m11_rule) (As := [(.ref (mN (mNew m8 6 0 5))), (.ref (mN m39)), (.ref (mN m54))]) (b := (mN m8)) dX11_rule_91 rfl k6_init lm_X11_98 rfl ⟨by decide, by decide⟩ (Nat.le_of_ble_eq_true rfl) (C.mono h ?_)
            rintro _ m59 ⟨rfl, hm60, h⟩
            refine ⟨none, rfl, ?_⟩
            refine r_astore (y := m11_rule) (L' := [some (.ref 0), some (.int a0), some (.int a1), some (.int a2), some (.int a3), some (.int x5), some (.ref (mN m8))]) dX11_rule_94 (Nat.le_of_ble_eq_true rfl) rfl ?_
            refine r_aload (y := m11_rule) dX11_rule_96 rfl ?_
            obtain ⟨hx61, h⟩ := h
            refine g_X11_101 (y := m11_rule) rfl dX11_rule_98 hx61 ?_
            refine r_if_ne (y := m11_rule) (tgt := 114) dX11_rule_101 (by decide) (fun hc62 => ?_) (fun hc62 => ?_)
            · have h := h.1 hc62
              refine r_aload_n (y := m11_rule) dX11_rule_114 rfl rfl ?_
              refine g_X11_19 (y := m11_rule) rfl dX11_rule_115 hm60 ?_
              refine g_X11_107 (y := m11_rule) rfl dX11_rule_118 hm60 ?_
              refine r_bipush (y := m11_rule) (v := 24) dX11_rule_121 (by decide) ?_
              refine r_icmp_lt (y := m11_rule) (tgt := 136) dX11_rule_123 (by decide) (fun hc63 => ?_) (fun hc63 => ?_)
              · have h := h.1 hc63
                refine r_aload_n (y := m11_rule) dX11_rule_136 rfl rfl ?_
                refine g_X11_19 (y := m11_rule) rfl dX11_rule_137 hm60 ?_
                refine r_iload_n (y := m11_rule) dX11_rule_140 rfl rfl ?_
                refine r_aload (y := m11_rule) dX11_rule_141 rfl ?_
                refine r_callVN (y := m11_rule) (As := [(.int a0), (.ref (mN m8))]) (b := 7) (ci := 5) dX11_rule_143 rfl k5_addRule lm_X11_112 rfl ⟨by decide, by decide⟩ (so_7 hm60) (by decide) rfl (Nat.le_of_ble_eq_true rfl) (C.mono h ?_)
                rintro _ m64 ⟨x66, rfl, hm65, h⟩
                refine ⟨_, rfl, ?_⟩
                exact r_iret (y := m11_rule) dX11_rule_146 rfl rfl h
              · have h := h.2 hc63
                exact r_throw (y := m11_rule) (is := 110) (ic := 60) (text := "there are 24 rules") dX11_rule_126 dX11_rule_129 dX11_rule_130 dX11_rule_132 dX11_rule_135 rfl (by decide +kernel) x60_ok (by decide) (Nat.le_of_ble_eq_true rfl) h
            · have h := h.2 hc62
              exact r_throw (y := m11_rule) (is := 105) (ic := 49) (text := "a pattern is of names and data, each name once") dX11_rule_104 dX11_rule_107 dX11_rule_108 dX11_rule_110 dX11_rule_113 rfl (by decide +kernel) x49_ok (by decide) (Nat.le_of_ble_eq_true rfl) h
set_option maxHeartbeats 4000000 in
set_option maxRecDepth 100000 in
theorem w11_unrule {m : Mm} {K : Option Value ⊕ String → Mm → Prop} (hm : St m) {a0 : Int32}  (h : (C m11_needFunction [(.ref 0), (.int a0)] m (fun o m1 => ∃ E, o = .inr E ∧ K (.inr E) m1) ∨ C m11_needFunction [(.ref 0), (.int a0)] m (fun o m1 => o = .inl none ∧ St m1 ∧ C m5_rulesOf [(.ref 7), (.int a0)] m1 (fun o m3 => ∃ x5 : Int32, o = .inl (some (.int x5)) ∧ St m3 ∧ ((¬ x5 = 0 → C m5_takeLastRule [(.ref 7), (.int a0)] m3 (fun o m7 => ∃ x9 : Int32, o = .inl (some (.int x9)) ∧ St m7 ∧ K (.inl (some (.int x9))) m7)) ∧ (x5 = 0 → K (.inr "java/lang/IllegalStateException") (mWaste m3 1 6))))))) : V m11_unrule 0 [some (.ref 0), some (.int a0)] [] m K := by
  refine r_aload_n (y := m11_unrule) dX11_unrule_0 rfl rfl ?_
  refine r_iload_n (y := m11_unrule) dX11_unrule_1 rfl rfl ?_
  rcases h with h | h
  · refine r_callX (y := m11_unrule) (As := [(.int a0)]) (b := 0) (ci := 11) dX11_unrule_2 rfl k11_needFunction lm_X11_81 rfl ⟨by decide, by decide⟩ (so_0 hm) (by decide) rfl (Nat.le_of_ble_eq_true rfl) h
  · refine r_callV (y := m11_unrule) (As := [(.int a0)]) (b := 0) (ci := 11) dX11_unrule_2 rfl k11_needFunction lm_X11_81 rfl ⟨by decide, by decide⟩ (so_0 hm) (by decide) rfl (Nat.le_of_ble_eq_true rfl) (C.mono h ?_)
    rintro _ m1 ⟨rfl, hm2, h⟩
    refine ⟨none, rfl, ?_⟩
    refine r_aload_n (y := m11_unrule) dX11_unrule_5 rfl rfl ?_
    refine g_X11_19 (y := m11_unrule) rfl dX11_unrule_6 hm2 ?_
    refine r_iload_n (y := m11_unrule) dX11_unrule_9 rfl rfl ?_
    refine r_callVN (y := m11_unrule) (As := [(.int a0)]) (b := 7) (ci := 5) dX11_unrule_10 rfl k5_rulesOf lm_X11_116 rfl ⟨by decide, by decide⟩ (so_7 hm2) (by decide) rfl (Nat.le_of_ble_eq_true rfl) (C.mono h ?_)
    rintro _ m3 ⟨x5, rfl, hm4, h⟩
    refine ⟨_, rfl, ?_⟩
    refine r_if_ne (y := m11_unrule) (tgt := 26) dX11_unrule_13 (by decide) (fun hc6 => ?_) (fun hc6 => ?_)
    · have h := h.1 hc6
      refine r_aload_n (y := m11_unrule) dX11_unrule_26 rfl rfl ?_
      refine g_X11_19 (y := m11_unrule) rfl dX11_unrule_27 hm4 ?_
      refine r_iload_n (y := m11_unrule) dX11_unrule_30 rfl rfl ?_
      refine r_callVN (y := m11_unrule) (As := [(.int a0)]) (b := 7) (ci := 5) dX11_unrule_31 rfl k5_takeLastRule lm_X11_121 rfl ⟨by decide, by decide⟩ (so_7 hm4) (by decide) rfl (Nat.le_of_ble_eq_true rfl) (C.mono h ?_)
      rintro _ m7 ⟨x9, rfl, hm8, h⟩
      refine ⟨_, rfl, ?_⟩
      exact r_iret (y := m11_unrule) dX11_unrule_34 rfl rfl h
    · have h := h.2 hc6
      exact r_throw (y := m11_unrule) (is := 119) (ic := 60) (text := "the function has no rules") dX11_unrule_16 dX11_unrule_19 dX11_unrule_20 dX11_unrule_22 dX11_unrule_25 rfl (by decide +kernel) x60_ok (by decide) (Nat.le_of_ble_eq_true rfl) h
set_option maxHeartbeats 4000000 in
set_option maxRecDepth 100000 in
theorem w11_many {m : Mm} {K : Option Value ⊕ String → Mm → Prop} (hm : St m)   (h : C m5_findMany [(.ref 7)] m (fun o m1 => ∃ x3 : Int32, o = .inl (some (.int x3)) ∧ St m1 ∧ K (.inl (some (.int x3))) m1)) : V m11_many 0 [some (.ref 0)] [] m K := by
  refine r_aload_n (y := m11_many) dX11_many_0 rfl rfl ?_
  refine g_X11_19 (y := m11_many) rfl dX11_many_1 hm ?_
  refine r_callVN (y := m11_many) (As := []) (b := 7) (ci := 5) dX11_many_4 rfl k5_findMany lm_X11_124 rfl ⟨by decide, by decide⟩ (so_7 hm) (by decide) rfl (Nat.le_of_ble_eq_true rfl) (C.mono h ?_)
  rintro _ m1 ⟨x3, rfl, hm2, h⟩
  refine ⟨_, rfl, ?_⟩
  exact r_iret (y := m11_many) dX11_many_7 rfl rfl h
set_option maxHeartbeats 4000000 in
set_option maxRecDepth 100000 in
theorem w11_goal {m : Mm} {K : Option Value ⊕ String → Mm → Prop} (hm : St m) {a0 : Int32}  (h : (C m11_needParts [(.ref 0), (.int 1), (.int a0), (.int (-1))] m (fun o m1 => ∃ E, o = .inr E ∧ K (.inr E) m1) ∨ C m11_needParts [(.ref 0), (.int 1), (.int a0), (.int (-1))] m (fun o m1 => o = .inl none ∧ St m1 ∧ C m0_init [(.ref (mN m1)), (.ref 1), (.int a0)] (mNew m1 0 0 7) (fun o m4 => o = .inl none ∧ St m4 ∧ St (mSetR m4 0 4 (some (mN m1))) ∧ ((mR (mSetR m4 0 4 (some (mN m1))) 0 4 = none → False) ∧ (∀ q7 : Nat, mR (mSetR m4 0 4 (some (mN m1))) 0 4 = some q7 → ∃ n10 : Nat, isExp (mSetI (mSetR m4 0 4 (some (mN m1))) 541 10 0) q7 n10 ∧ K (.inl (some (.int (mI (mSetI m4 541 10 0) q7 0)))) (mSetI (mSetR m4 0 4 (some (mN m1))) 541 10 0))))))) : V m11_goal 0 [some (.ref 0), some (.int a0)] [] m K := by
  refine r_aload_n (y := m11_goal) dX11_goal_0 rfl rfl ?_
  refine r_iconst (y := m11_goal) (v := 1) dX11_goal_1 (by decide) ?_
  refine r_iload_n (y := m11_goal) dX11_goal_2 rfl rfl ?_
  refine r_iconst (y := m11_goal) (v := (-1)) dX11_goal_3 (by decide) ?_
  rcases h with h | h
  · refine r_callX (y := m11_goal) (As := [(.int 1), (.int a0), (.int (-1))]) (b := 0) (ci := 11) dX11_goal_4 rfl k11_needParts lm_X11_75 rfl ⟨by decide, by decide⟩ (so_0 hm) (by decide) rfl (Nat.le_of_ble_eq_true rfl) h
  · refine r_callV (y := m11_goal) (As := [(.int 1), (.int a0), (.int (-1))]) (b := 0) (ci := 11) dX11_goal_4 rfl k11_needParts lm_X11_75 rfl ⟨by decide, by decide⟩ (so_0 hm) (by decide) rfl (Nat.le_of_ble_eq_true rfl) (C.mono h ?_)
    rintro _ m1 ⟨rfl, hm2, h⟩
    refine ⟨none, rfl, ?_⟩
    refine r_aload_n (y := m11_goal) dX11_goal_7 rfl rfl ?_
    refine r_new (y := m11_goal) (ci := 0) dX11_goal_8 (by decide) (by decide +kernel) (by decide +kernel) (by decide +kernel) ?_
    have hm3 := St.new hm2 (kd := 0) (len := 0) (z := 7)
    refine r_dup_r (y := m11_goal) dX11_goal_11 ?_
    refine r_aload_n (y := m11_goal) dX11_goal_12 rfl rfl ?_
    refine g_X11_12 (y := m11_goal) rfl dX11_goal_13 hm3 ?_
    refine r_iload_n (y := m11_goal) dX11_goal_16 rfl rfl ?_
    refine r_callIN (y := m11_goal) (As := [(.ref 1), (.int a0)]) (b := (mN m1)) dX11_goal_17 rfl k0_init lm_X11_95 rfl ⟨by decide, by decide⟩ (Nat.le_of_ble_eq_true rfl) (C.mono h ?_)
    rintro _ m4 ⟨rfl, hm5, h⟩
    refine ⟨none, rfl, ?_⟩
    refine p_X11_41 (y := m11_goal) rfl dX11_goal_20 hm5 ?_
    obtain ⟨hm6, h⟩ := h
    refine r_aload_n (y := m11_goal) dX11_goal_23 rfl rfl ?_
    refine g_X11_37 (y := m11_goal) rfl dX11_goal_24 hm6 ?_
    refine r_iconst (y := m11_goal) (v := 0) dX11_goal_27 (by decide) ?_
    refine p_X11_128 (y := m11_goal) rfl dX11_goal_28 hm6 ?_
    refine r_aload_n (y := m11_goal) dX11_goal_31 rfl rfl ?_
    rcases hq8 : mR (mSetR m4 0 4 (some (mN m1))) 0 4 with _ | q7
    · have h := h.1 hq8
      refine g_X11_41 (y := m11_goal) rfl dX11_goal_32 (St.i hm6) (q := none) hq8 ?_
      exact h.elim
    · have h := h.2 q7 hq8
      refine g_X11_41 (y := m11_goal) rfl dX11_goal_32 (St.i hm6) (q := some q7) hq8 ?_
      obtain ⟨n10, hx9, h⟩ := h
      refine g_X11_131 (y := m11_goal) rfl dX11_goal_35 hx9 ?_
      exact r_iret (y := m11_goal) dX11_goal_38 rfl rfl h
set_option maxHeartbeats 4000000 in
set_option maxRecDepth 100000 in
theorem w11_search {m : Mm} {K : Option Value ⊕ String → Mm → Prop} (hm : St m) {a0 : Int32} {a1 : Int32}  (h : ((a0 < 0 → K (.inr "java/lang/IllegalArgumentException") (mWaste m 1 6)) ∧ (¬ a0 < 0 → ((a0 ≤ 2 → ((mR m 0 4 = none → K (.inr "java/lang/IllegalStateException") (mWaste m 1 6)) ∧ (∀ q3 : Nat, mR m 0 4 = some q3 → C m8_make [(.ref 541), (.ref q3), (.int a0), (.int a1)] m (fun o m7 => ∃ x9 : Int32, o = .inl (some (.int x9)) ∧ St m7 ∧ K (.inl (some (.int x9))) m7)))) ∧ (¬ a0 ≤ 2 → K (.inr "java/lang/IllegalArgumentException") (mWaste m 1 6)))))) : V m11_search 0 [some (.ref 0), some (.int a0), some (.int a1)] [] m K := by
  refine r_iload_n (y := m11_search) dX11_search_0 rfl rfl ?_
  refine r_if_lt (y := m11_search) (tgt := 9) dX11_search_1 (by decide) (fun hc1 => ?_) (fun hc1 => ?_)
  · have h := h.1 hc1
    exact r_throw (y := m11_search) (is := 134) (ic := 49) (text := "orders are DEPTH to DRAWN") dX11_search_9 dX11_search_12 dX11_search_13 dX11_search_15 dX11_search_18 rfl (by decide +kernel) x49_ok (by decide) (Nat.le_of_ble_eq_true rfl) h
  · have h := h.2 hc1
    refine r_iload_n (y := m11_search) dX11_search_4 rfl rfl ?_
    refine r_iconst (y := m11_search) (v := 2) dX11_search_5 (by decide) ?_
    refine r_icmp_le (y := m11_search) (tgt := 19) dX11_search_6 (by decide) (fun hc2 => ?_) (fun hc2 => ?_)
    · have h := h.1 hc2
      refine r_aload_n (y := m11_search) dX11_search_19 rfl rfl ?_
      rcases hq4 : mR m 0 4 with _ | q3
      · have h := h.1 hq4
        refine g_X11_41 (y := m11_search) rfl dX11_search_20 hm (q := none) hq4 ?_
        refine r_ifnonnullN (y := m11_search) dX11_search_23 ?_
        exact r_throw (y := m11_search) (is := 136) (ic := 60) (text := "there is no goal") dX11_search_26 dX11_search_29 dX11_search_30 dX11_search_32 dX11_search_35 rfl (by decide +kernel) x60_ok (by decide) (Nat.le_of_ble_eq_true rfl) h
      · have h := h.2 q3 hq4
        refine g_X11_41 (y := m11_search) rfl dX11_search_20 hm (q := some q3) hq4 ?_
        refine r_ifnonnull (y := m11_search) (tgt := 36) dX11_search_23 (by decide) ?_
        refine r_aload_n (y := m11_search) dX11_search_36 rfl rfl ?_
        refine g_X11_37 (y := m11_search) rfl dX11_search_37 hm ?_
        refine r_aload_n (y := m11_search) dX11_search_40 rfl rfl ?_
        refine g_X11_41 (y := m11_search) rfl dX11_search_41 hm (q := some q3) hq4 ?_
        refine r_iload_n (y := m11_search) dX11_search_44 rfl rfl ?_
        refine r_iload_n (y := m11_search) dX11_search_45 rfl rfl ?_
        refine r_callVN (y := m11_search) (As := [(.ref q3), (.int a0), (.int a1)]) (b := 541) (ci := 8) dX11_search_46 rfl k8_make lm_X11_138 rfl ⟨by decide, by decide⟩ (so_541 hm) (by decide) rfl (Nat.le_of_ble_eq_true rfl) (C.mono h ?_)
        rintro _ m7 ⟨x9, rfl, hm8, h⟩
        refine ⟨_, rfl, ?_⟩
        exact r_iret (y := m11_search) dX11_search_49 rfl rfl h
    · have h := h.2 hc2
      exact r_throw (y := m11_search) (is := 134) (ic := 49) (text := "orders are DEPTH to DRAWN") dX11_search_9 dX11_search_12 dX11_search_13 dX11_search_15 dX11_search_18 rfl (by decide +kernel) x49_ok (by decide) (Nat.le_of_ble_eq_true rfl) h
set_option maxHeartbeats 4000000 in
set_option maxRecDepth 100000 in
theorem w11_count {m : Mm} {K : Option Value ⊕ String → Mm → Prop} (hm : St m) {a0 : Int32}  (h : ((a0 < 0 → K (.inr "java/lang/IllegalArgumentException") (mWaste m 1 6)) ∧ (¬ a0 < 0 → ((a0 < 6 → vp_in a0 6 ∧ K (.inl (some (.int (mI m 543 (Int32.toNatClampNeg a0))))) m) ∧ (¬ a0 < 6 → K (.inr "java/lang/IllegalArgumentException") (mWaste m 1 6)))))) : V m11_count 0 [some (.ref 0), some (.int a0)] [] m K := by
  refine r_iload_n (y := m11_count) dX11_count_0 rfl rfl ?_
  refine r_if_lt (y := m11_count) (tgt := 10) dX11_count_1 (by decide) (fun hc1 => ?_) (fun hc1 => ?_)
  · have h := h.1 hc1
    exact r_throw (y := m11_count) (is := 142) (ic := 49) (text := "numbers are 0 to 5") dX11_count_10 dX11_count_13 dX11_count_14 dX11_count_16 dX11_count_19 rfl (by decide +kernel) x49_ok (by decide) (Nat.le_of_ble_eq_true rfl) h
  · have h := h.2 hc1
    refine r_iload_n (y := m11_count) dX11_count_4 rfl rfl ?_
    refine r_bipush (y := m11_count) (v := 6) dX11_count_5 (by decide) ?_
    refine r_icmp_lt (y := m11_count) (tgt := 20) dX11_count_7 (by decide) (fun hc2 => ?_) (fun hc2 => ?_)
    · have h := h.1 hc2
      refine r_aload_n (y := m11_count) dX11_count_20 rfl rfl ?_
      refine g_X11_37 (y := m11_count) rfl dX11_count_21 hm ?_
      refine g_X11_144 (y := m11_count) rfl dX11_count_24 hm ?_
      refine r_iload_n (y := m11_count) dX11_count_27 rfl rfl ?_
      obtain ⟨hb3, h⟩ := h
      refine r_iald (y := m11_count) (n := 6) dX11_count_28 (sa_543 hm) hb3 ?_
      exact r_iret (y := m11_count) dX11_count_29 rfl rfl h
    · have h := h.2 hc2
      exact r_throw (y := m11_count) (is := 142) (ic := 49) (text := "numbers are 0 to 5") dX11_count_10 dX11_count_13 dX11_count_14 dX11_count_16 dX11_count_19 rfl (by decide +kernel) x49_ok (by decide) (Nat.le_of_ble_eq_true rfl) h
set_option maxHeartbeats 4000000 in
set_option maxRecDepth 100000 in
theorem w11_part {m : Mm} {K : Option Value ⊕ String → Mm → Prop} (hm : St m) {a0 : Int32} {a1 : Int32}  (h : (C m11_needPlace [(.ref 0), (.int a0), (.int a1)] m (fun o m1 => ∃ E, o = .inr E ∧ K (.inr E) m1) ∨ C m11_needPlace [(.ref 0), (.int a0), (.int a1)] m (fun o m1 => o = .inl none ∧ St m1 ∧ vp_in a0 10 ∧ C m11_numberAt [(.ref (548 + 12 * (Int32.toNatClampNeg a0) + 1)), (.int a1)] m1 (fun o m5 => ∃ x7 : Int32, o = .inl (some (.int x7)) ∧ St m5 ∧ K (.inl (some (.int x7))) m5)))) : V m11_part 0 [some (.ref 0), some (.int a0), some (.int a1)] [] m K := by
  refine r_aload_n (y := m11_part) dX11_part_0 rfl rfl ?_
  refine r_iload_n (y := m11_part) dX11_part_1 rfl rfl ?_
  refine r_iload_n (y := m11_part) dX11_part_2 rfl rfl ?_
  rcases h with h | h
  · refine r_callX (y := m11_part) (As := [(.int a0), (.int a1)]) (b := 0) (ci := 11) dX11_part_3 rfl k11_needPlace lm_X11_148 rfl ⟨by decide, by decide⟩ (so_0 hm) (by decide) rfl (Nat.le_of_ble_eq_true rfl) h
  · refine r_callV (y := m11_part) (As := [(.int a0), (.int a1)]) (b := 0) (ci := 11) dX11_part_3 rfl k11_needPlace lm_X11_148 rfl ⟨by decide, by decide⟩ (so_0 hm) (by decide) rfl (Nat.le_of_ble_eq_true rfl) (C.mono h ?_)
    rintro _ m1 ⟨rfl, hm2, h⟩
    refine ⟨none, rfl, ?_⟩
    refine r_aload_n (y := m11_part) dX11_part_6 rfl rfl ?_
    refine g_X11_37 (y := m11_part) rfl dX11_part_7 hm2 ?_
    refine g_X11_152 (y := m11_part) rfl dX11_part_10 hm2 ?_
    refine r_iload_n (y := m11_part) dX11_part_13 rfl rfl ?_
    obtain ⟨hb3, h⟩ := h
    have hl4 := vp_lt hb3
    refine r_aald (y := m11_part) (n := 10) (r := some (548 + 12 * (Int32.toNatClampNeg a0))) dX11_part_14 (sa_542 hm2) (by decide) (by decide) hb3 (sr_fo hm2 hl4) ?_
    refine g_X11_156 (y := m11_part) (i := (Int32.toNatClampNeg a0)) rfl dX11_part_15 hm2 hl4 ?_
    refine r_iload_n (y := m11_part) dX11_part_18 rfl rfl ?_
    refine r_callS (y := m11_part) (As := [(.ref (548 + 12 * (Int32.toNatClampNeg a0) + 1)), (.int a1)]) dX11_part_19 rfl k11_numberAt lm_X11_161 rfl ⟨by decide, by decide⟩ (Nat.le_of_ble_eq_true rfl) (C.mono h ?_)
    rintro _ m5 ⟨x7, rfl, hm6, h⟩
    refine ⟨_, rfl, ?_⟩
    exact r_iret (y := m11_part) dX11_part_22 rfl rfl h
set_option maxHeartbeats 4000000 in
set_option maxRecDepth 100000 in
theorem w11_bound {m : Mm} {K : Option Value ⊕ String → Mm → Prop} (hm : St m) {a0 : Int32} {a1 : Int32} {a2 : Int32}  (h : (C m11_needPlace [(.ref 0), (.int a0), (.int a2)] m (fun o m1 => ∃ E, o = .inr E ∧ K (.inr E) m1) ∨ C m11_needPlace [(.ref 0), (.int a0), (.int a2)] m (fun o m1 => o = .inl none ∧ St m1 ∧ ((a1 < 0 → K (.inr "java/lang/IndexOutOfBoundsException") (mWaste m1 1 6)) ∧ (¬ a1 < 0 → ((a1 < 6 → vp_in a0 10 ∧ vp_in a1 6 ∧ C m11_numberAt [(.ref (548 + 12 * (Int32.toNatClampNeg a0) + 3 + (Int32.toNatClampNeg a1))), (.int a2)] m1 (fun o m9 => ∃ x11 : Int32, o = .inl (some (.int x11)) ∧ St m9 ∧ K (.inl (some (.int x11))) m9)) ∧ (¬ a1 < 6 → K (.inr "java/lang/IndexOutOfBoundsException") (mWaste m1 1 6)))))))) : V m11_bound 0 [some (.ref 0), some (.int a0), some (.int a1), some (.int a2)] [] m K := by
  refine r_aload_n (y := m11_bound) dX11_bound_0 rfl rfl ?_
  refine r_iload_n (y := m11_bound) dX11_bound_1 rfl rfl ?_
  refine r_iload_n (y := m11_bound) dX11_bound_2 rfl rfl ?_
  rcases h with h | h
  · refine r_callX (y := m11_bound) (As := [(.int a0), (.int a2)]) (b := 0) (ci := 11) dX11_bound_3 rfl k11_needPlace lm_X11_148 rfl ⟨by decide, by decide⟩ (so_0 hm) (by decide) rfl (Nat.le_of_ble_eq_true rfl) h
  · refine r_callV (y := m11_bound) (As := [(.int a0), (.int a2)]) (b := 0) (ci := 11) dX11_bound_3 rfl k11_needPlace lm_X11_148 rfl ⟨by decide, by decide⟩ (so_0 hm) (by decide) rfl (Nat.le_of_ble_eq_true rfl) (C.mono h ?_)
    rintro _ m1 ⟨rfl, hm2, h⟩
    refine ⟨none, rfl, ?_⟩
    refine r_iload_n (y := m11_bound) dX11_bound_6 rfl rfl ?_
    refine r_if_lt (y := m11_bound) (tgt := 16) dX11_bound_7 (by decide) (fun hc3 => ?_) (fun hc3 => ?_)
    · have h := h.1 hc3
      exact r_throw (y := m11_bound) (is := 167) (ic := 169) (text := "no such name") dX11_bound_16 dX11_bound_19 dX11_bound_20 dX11_bound_22 dX11_bound_25 rfl (by decide +kernel) x169_ok (by decide) (Nat.le_of_ble_eq_true rfl) h
    · have h := h.2 hc3
      refine r_iload_n (y := m11_bound) dX11_bound_10 rfl rfl ?_
      refine r_bipush (y := m11_bound) (v := 6) dX11_bound_11 (by decide) ?_
      refine r_icmp_lt (y := m11_bound) (tgt := 26) dX11_bound_13 (by decide) (fun hc4 => ?_) (fun hc4 => ?_)
      · have h := h.1 hc4
        refine r_aload_n (y := m11_bound) dX11_bound_26 rfl rfl ?_
        refine g_X11_37 (y := m11_bound) rfl dX11_bound_27 hm2 ?_
        refine g_X11_152 (y := m11_bound) rfl dX11_bound_30 hm2 ?_
        refine r_iload_n (y := m11_bound) dX11_bound_33 rfl rfl ?_
        obtain ⟨hb5, h⟩ := h
        have hl6 := vp_lt hb5
        refine r_aald (y := m11_bound) (n := 10) (r := some (548 + 12 * (Int32.toNatClampNeg a0))) dX11_bound_34 (sa_542 hm2) (by decide) (by decide) hb5 (sr_fo hm2 hl6) ?_
        refine g_X11_170 (y := m11_bound) (i := (Int32.toNatClampNeg a0)) rfl dX11_bound_35 hm2 hl6 ?_
        refine r_iload_n (y := m11_bound) dX11_bound_38 rfl rfl ?_
        obtain ⟨hb7, h⟩ := h
        have hl8 := vp_lt hb7
        refine r_aald (y := m11_bound) (n := 6) (r := some (548 + 12 * (Int32.toNatClampNeg a0) + 3 + (Int32.toNatClampNeg a1))) dX11_bound_39 (sf_fo (k := 2) hm2 hl6 (by decide)) (by decide) (by decide) hb7 (sr_fb hm2 hl6 hl8) ?_
        refine r_iload_n (y := m11_bound) dX11_bound_40 rfl rfl ?_
        refine r_callS (y := m11_bound) (As := [(.ref (548 + 12 * (Int32.toNatClampNeg a0) + 3 + (Int32.toNatClampNeg a1))), (.int a2)]) dX11_bound_41 rfl k11_numberAt lm_X11_161 rfl ⟨by decide, by decide⟩ (Nat.le_of_ble_eq_true rfl) (C.mono h ?_)
        rintro _ m9 ⟨x11, rfl, hm10, h⟩
        refine ⟨_, rfl, ?_⟩
        exact r_iret (y := m11_bound) dX11_bound_44 rfl rfl h
      · have h := h.2 hc4
        exact r_throw (y := m11_bound) (is := 167) (ic := 169) (text := "no such name") dX11_bound_16 dX11_bound_19 dX11_bound_20 dX11_bound_22 dX11_bound_25 rfl (by decide +kernel) x169_ok (by decide) (Nat.le_of_ble_eq_true rfl) h
set_option maxHeartbeats 4000000 in
set_option maxRecDepth 100000 in
theorem w11_steps {m : Mm} {K : Option Value ⊕ String → Mm → Prop} (hm : St m) {a0 : Int32}  (h : (C m11_needPlace [(.ref 0), (.int a0), (.int 0)] m (fun o m1 => ∃ E, o = .inr E ∧ K (.inr E) m1) ∨ C m11_needPlace [(.ref 0), (.int a0), (.int 0)] m (fun o m1 => o = .inl none ∧ St m1 ∧ vp_in a0 10 ∧ K (.inl (some (.int (mI m1 (548 + 12 * (Int32.toNatClampNeg a0)) 3)))) m1))) : V m11_steps 0 [some (.ref 0), some (.int a0)] [] m K := by
  refine r_aload_n (y := m11_steps) dX11_steps_0 rfl rfl ?_
  refine r_iload_n (y := m11_steps) dX11_steps_1 rfl rfl ?_
  refine r_iconst (y := m11_steps) (v := 0) dX11_steps_2 (by decide) ?_
  rcases h with h | h
  · refine r_callX (y := m11_steps) (As := [(.int a0), (.int 0)]) (b := 0) (ci := 11) dX11_steps_3 rfl k11_needPlace lm_X11_148 rfl ⟨by decide, by decide⟩ (so_0 hm) (by decide) rfl (Nat.le_of_ble_eq_true rfl) h
  · refine r_callV (y := m11_steps) (As := [(.int a0), (.int 0)]) (b := 0) (ci := 11) dX11_steps_3 rfl k11_needPlace lm_X11_148 rfl ⟨by decide, by decide⟩ (so_0 hm) (by decide) rfl (Nat.le_of_ble_eq_true rfl) (C.mono h ?_)
    rintro _ m1 ⟨rfl, hm2, h⟩
    refine ⟨none, rfl, ?_⟩
    refine r_aload_n (y := m11_steps) dX11_steps_6 rfl rfl ?_
    refine g_X11_37 (y := m11_steps) rfl dX11_steps_7 hm2 ?_
    refine g_X11_152 (y := m11_steps) rfl dX11_steps_10 hm2 ?_
    refine r_iload_n (y := m11_steps) dX11_steps_13 rfl rfl ?_
    obtain ⟨hb3, h⟩ := h
    have hl4 := vp_lt hb3
    refine r_aald (y := m11_steps) (n := 10) (r := some (548 + 12 * (Int32.toNatClampNeg a0))) dX11_steps_14 (sa_542 hm2) (by decide) (by decide) hb3 (sr_fo hm2 hl4) ?_
    refine g_X11_174 (y := m11_steps) (i := (Int32.toNatClampNeg a0)) rfl dX11_steps_15 hm2 hl4 ?_
    exact r_iret (y := m11_steps) dX11_steps_18 rfl rfl h
set_option maxHeartbeats 4000000 in
set_option maxRecDepth 100000 in
theorem w11_fate {m : Mm} {K : Option Value ⊕ String → Mm → Prop} (hm : St m) {a0 : Int32} {a1 : Int32}  (h : (C m11_needPlace [(.ref 0), (.int a0), (.int a1)] m (fun o m1 => ∃ E, o = .inr E ∧ K (.inr E) m1) ∨ C m11_needPlace [(.ref 0), (.int a0), (.int a1)] m (fun o m1 => o = .inl none ∧ St m1 ∧ vp_in a0 10 ∧ C m11_numberAt [(.ref (548 + 12 * (Int32.toNatClampNeg a0) + 9)), (.int a1)] m1 (fun o m5 => ∃ x7 : Int32, o = .inl (some (.int x7)) ∧ St m5 ∧ K (.inl (some (.int x7))) m5)))) : V m11_fate 0 [some (.ref 0), some (.int a0), some (.int a1)] [] m K := by
  refine r_aload_n (y := m11_fate) dX11_fate_0 rfl rfl ?_
  refine r_iload_n (y := m11_fate) dX11_fate_1 rfl rfl ?_
  refine r_iload_n (y := m11_fate) dX11_fate_2 rfl rfl ?_
  rcases h with h | h
  · refine r_callX (y := m11_fate) (As := [(.int a0), (.int a1)]) (b := 0) (ci := 11) dX11_fate_3 rfl k11_needPlace lm_X11_148 rfl ⟨by decide, by decide⟩ (so_0 hm) (by decide) rfl (Nat.le_of_ble_eq_true rfl) h
  · refine r_callV (y := m11_fate) (As := [(.int a0), (.int a1)]) (b := 0) (ci := 11) dX11_fate_3 rfl k11_needPlace lm_X11_148 rfl ⟨by decide, by decide⟩ (so_0 hm) (by decide) rfl (Nat.le_of_ble_eq_true rfl) (C.mono h ?_)
    rintro _ m1 ⟨rfl, hm2, h⟩
    refine ⟨none, rfl, ?_⟩
    refine r_aload_n (y := m11_fate) dX11_fate_6 rfl rfl ?_
    refine g_X11_37 (y := m11_fate) rfl dX11_fate_7 hm2 ?_
    refine g_X11_152 (y := m11_fate) rfl dX11_fate_10 hm2 ?_
    refine r_iload_n (y := m11_fate) dX11_fate_13 rfl rfl ?_
    obtain ⟨hb3, h⟩ := h
    have hl4 := vp_lt hb3
    refine r_aald (y := m11_fate) (n := 10) (r := some (548 + 12 * (Int32.toNatClampNeg a0))) dX11_fate_14 (sa_542 hm2) (by decide) (by decide) hb3 (sr_fo hm2 hl4) ?_
    refine g_X11_177 (y := m11_fate) (i := (Int32.toNatClampNeg a0)) rfl dX11_fate_15 hm2 hl4 ?_
    refine r_iload_n (y := m11_fate) dX11_fate_18 rfl rfl ?_
    refine r_callS (y := m11_fate) (As := [(.ref (548 + 12 * (Int32.toNatClampNeg a0) + 9)), (.int a1)]) dX11_fate_19 rfl k11_numberAt lm_X11_161 rfl ⟨by decide, by decide⟩ (Nat.le_of_ble_eq_true rfl) (C.mono h ?_)
    rintro _ m5 ⟨x7, rfl, hm6, h⟩
    refine ⟨_, rfl, ?_⟩
    exact r_iret (y := m11_fate) dX11_fate_22 rfl rfl h
set_option maxHeartbeats 4000000 in
set_option maxRecDepth 100000 in
theorem w11_within {m : Mm} {K : Option Value ⊕ String → Mm → Prop} (hm : St m) {a0 : Int32}  (h : ((a0 < 0 → K (.inr "java/lang/IllegalArgumentException") (mWaste m 1 6)) ∧ (¬ a0 < 0 → ((a0 ≤ 10 → ((mR m 0 4 = none → K (.inr "java/lang/IllegalStateException") (mWaste m 1 6)) ∧ (∀ q3 : Nat, mR m 0 4 = some q3 → C m8_countWithin [(.ref 541), (.ref q3), (.int a0)] m (fun o m7 => ∃ x9 : Int32, o = .inl (some (.int x9)) ∧ St m7 ∧ K (.inl (some (.int x9))) m7)))) ∧ (¬ a0 ≤ 10 → K (.inr "java/lang/IllegalArgumentException") (mWaste m 1 6)))))) : V m11_within 0 [some (.ref 0), some (.int a0)] [] m K := by
  refine r_iload_n (y := m11_within) dX11_within_0 rfl rfl ?_
  refine r_if_lt (y := m11_within) (tgt := 10) dX11_within_1 (by decide) (fun hc1 => ?_) (fun hc1 => ?_)
  · have h := h.1 hc1
    exact r_throw (y := m11_within) (is := 180) (ic := 49) (text := "decisions are 0 to 10") dX11_within_10 dX11_within_13 dX11_within_14 dX11_within_16 dX11_within_19 rfl (by decide +kernel) x49_ok (by decide) (Nat.le_of_ble_eq_true rfl) h
  · have h := h.2 hc1
    refine r_iload_n (y := m11_within) dX11_within_4 rfl rfl ?_
    refine r_bipush (y := m11_within) (v := 10) dX11_within_5 (by decide) ?_
    refine r_icmp_le (y := m11_within) (tgt := 20) dX11_within_7 (by decide) (fun hc2 => ?_) (fun hc2 => ?_)
    · have h := h.1 hc2
      refine r_aload_n (y := m11_within) dX11_within_20 rfl rfl ?_
      rcases hq4 : mR m 0 4 with _ | q3
      · have h := h.1 hq4
        refine g_X11_41 (y := m11_within) rfl dX11_within_21 hm (q := none) hq4 ?_
        refine r_ifnonnullN (y := m11_within) dX11_within_24 ?_
        exact r_throw (y := m11_within) (is := 136) (ic := 60) (text := "there is no goal") dX11_within_27 dX11_within_30 dX11_within_31 dX11_within_33 dX11_within_36 rfl (by decide +kernel) x60_ok (by decide) (Nat.le_of_ble_eq_true rfl) h
      · have h := h.2 q3 hq4
        refine g_X11_41 (y := m11_within) rfl dX11_within_21 hm (q := some q3) hq4 ?_
        refine r_ifnonnull (y := m11_within) (tgt := 37) dX11_within_24 (by decide) ?_
        refine r_aload_n (y := m11_within) dX11_within_37 rfl rfl ?_
        refine g_X11_37 (y := m11_within) rfl dX11_within_38 hm ?_
        refine r_aload_n (y := m11_within) dX11_within_41 rfl rfl ?_
        refine g_X11_41 (y := m11_within) rfl dX11_within_42 hm (q := some q3) hq4 ?_
        refine r_iload_n (y := m11_within) dX11_within_45 rfl rfl ?_
        refine r_callVN (y := m11_within) (As := [(.ref q3), (.int a0)]) (b := 541) (ci := 8) dX11_within_46 rfl k8_countWithin lm_X11_182 rfl ⟨by decide, by decide⟩ (so_541 hm) (by decide) rfl (Nat.le_of_ble_eq_true rfl) (C.mono h ?_)
        rintro _ m7 ⟨x9, rfl, hm8, h⟩
        refine ⟨_, rfl, ?_⟩
        exact r_iret (y := m11_within) dX11_within_49 rfl rfl h
    · have h := h.2 hc2
      exact r_throw (y := m11_within) (is := 180) (ic := 49) (text := "decisions are 0 to 10") dX11_within_10 dX11_within_13 dX11_within_14 dX11_within_16 dX11_within_19 rfl (by decide +kernel) x49_ok (by decide) (Nat.le_of_ble_eq_true rfl) h
set_option maxHeartbeats 4000000 in
set_option maxRecDepth 100000 in
theorem w11_needFunction {m : Mm} {K : Option Value ⊕ String → Mm → Prop} (hm : St m) {a0 : Int32}  (h : ((a0 < 0 → K (.inr "java/lang/IndexOutOfBoundsException") (mWaste m 1 6)) ∧ (¬ a0 < 0 → ((a0 < (mI m 7 4) → K (.inl none) m) ∧ (¬ a0 < (mI m 7 4) → K (.inr "java/lang/IndexOutOfBoundsException") (mWaste m 1 6)))))) : V m11_needFunction 0 [some (.ref 0), some (.int a0)] [] m K := by
  refine r_iload_n (y := m11_needFunction) dX11_needFunction_0 rfl rfl ?_
  refine r_if_lt (y := m11_needFunction) (tgt := 15) dX11_needFunction_1 (by decide) (fun hc1 => ?_) (fun hc1 => ?_)
  · have h := h.1 hc1
    exact r_throw (y := m11_needFunction) (is := 186) (ic := 169) (text := "no such function") dX11_needFunction_15 dX11_needFunction_18 dX11_needFunction_19 dX11_needFunction_21 dX11_needFunction_24 rfl (by decide +kernel) x169_ok (by decide) (Nat.le_of_ble_eq_true rfl) h
  · have h := h.2 hc1
    refine r_iload_n (y := m11_needFunction) dX11_needFunction_4 rfl rfl ?_
    refine r_aload_n (y := m11_needFunction) dX11_needFunction_5 rfl rfl ?_
    refine g_X11_19 (y := m11_needFunction) rfl dX11_needFunction_6 hm ?_
    refine g_X11_52 (y := m11_needFunction) rfl dX11_needFunction_9 hm ?_
    refine r_icmp_lt (y := m11_needFunction) (tgt := 25) dX11_needFunction_12 (by decide) (fun hc2 => ?_) (fun hc2 => ?_)
    · have h := h.1 hc2
      exact r_ret (y := m11_needFunction) dX11_needFunction_25 rfl h
    · have h := h.2 hc2
      exact r_throw (y := m11_needFunction) (is := 186) (ic := 169) (text := "no such function") dX11_needFunction_15 dX11_needFunction_18 dX11_needFunction_19 dX11_needFunction_21 dX11_needFunction_24 rfl (by decide +kernel) x169_ok (by decide) (Nat.le_of_ble_eq_true rfl) h
set_option maxHeartbeats 4000000 in
set_option maxRecDepth 100000 in
theorem w11_needParts {m : Mm} {K : Option Value ⊕ String → Mm → Prop} (hm : St m) {a0 : Int32} {a1 : Int32} {a2 : Int32}  (h : ((a0 ≤ 0 → ((a0 ≤ 1 → K (.inl none) m) ∧ (¬ a0 ≤ 1 → C m4_has [(.ref 1), (.int a2)] m (fun o m3 => ∃ x5 : Int32, o = .inl (some (.int x5)) ∧ St m3 ∧ ((¬ x5 = 0 → K (.inl none) m3) ∧ (x5 = 0 → K (.inr "java/lang/IndexOutOfBoundsException") (mWaste m3 1 6))))))) ∧ (¬ a0 ≤ 0 → C m4_has [(.ref 1), (.int a1)] m (fun o m7 => ∃ x9 : Int32, o = .inl (some (.int x9)) ∧ St m7 ∧ ((x9 = 0 → K (.inr "java/lang/IndexOutOfBoundsException") (mWaste m7 1 6)) ∧ (¬ x9 = 0 → ((a0 ≤ 1 → K (.inl none) m7) ∧ (¬ a0 ≤ 1 → C m4_has [(.ref 1), (.int a2)] m7 (fun o m12 => ∃ x14 : Int32, o = .inl (some (.int x14)) ∧ St m12 ∧ ((¬ x14 = 0 → K (.inl none) m12) ∧ (x14 = 0 → K (.inr "java/lang/IndexOutOfBoundsException") (mWaste m12 1 6)))))))))))) : V m11_needParts 0 [some (.ref 0), some (.int a0), some (.int a1), some (.int a2)] [] m K := by
  refine r_iload_n (y := m11_needParts) dX11_needParts_0 rfl rfl ?_
  refine r_if_le (y := m11_needParts) (tgt := 15) dX11_needParts_1 (by decide) (fun hc1 => ?_) (fun hc1 => ?_)
  · have h := h.1 hc1
    refine r_iload_n (y := m11_needParts) dX11_needParts_15 rfl rfl ?_
    refine r_iconst (y := m11_needParts) (v := 1) dX11_needParts_16 (by decide) ?_
    refine r_icmp_le (y := m11_needParts) (tgt := 41) dX11_needParts_17 (by decide) (fun hc2 => ?_) (fun hc2 => ?_)
    · have h := h.1 hc2
      exact r_ret (y := m11_needParts) dX11_needParts_41 rfl h
    · have h := h.2 hc2
      refine r_aload_n (y := m11_needParts) dX11_needParts_20 rfl rfl ?_
      refine g_X11_12 (y := m11_needParts) rfl dX11_needParts_21 hm ?_
      refine r_iload_n (y := m11_needParts) dX11_needParts_24 rfl rfl ?_
      refine r_callVN (y := m11_needParts) (As := [(.int a2)]) (b := 1) (ci := 4) dX11_needParts_25 rfl k4_has lm_X11_188 rfl ⟨by decide, by decide⟩ (so_1 hm) (by decide) rfl (Nat.le_of_ble_eq_true rfl) (C.mono h ?_)
      rintro _ m3 ⟨x5, rfl, hm4, h⟩
      refine ⟨_, rfl, ?_⟩
      refine r_if_ne (y := m11_needParts) (tgt := 41) dX11_needParts_28 (by decide) (fun hc6 => ?_) (fun hc6 => ?_)
      · have h := h.1 hc6
        exact r_ret (y := m11_needParts) dX11_needParts_41 rfl h
      · have h := h.2 hc6
        exact r_throw (y := m11_needParts) (is := 192) (ic := 169) (text := "no such node") dX11_needParts_31 dX11_needParts_34 dX11_needParts_35 dX11_needParts_37 dX11_needParts_40 rfl (by decide +kernel) x169_ok (by decide) (Nat.le_of_ble_eq_true rfl) h
  · have h := h.2 hc1
    refine r_aload_n (y := m11_needParts) dX11_needParts_4 rfl rfl ?_
    refine g_X11_12 (y := m11_needParts) rfl dX11_needParts_5 hm ?_
    refine r_iload_n (y := m11_needParts) dX11_needParts_8 rfl rfl ?_
    refine r_callVN (y := m11_needParts) (As := [(.int a1)]) (b := 1) (ci := 4) dX11_needParts_9 rfl k4_has lm_X11_188 rfl ⟨by decide, by decide⟩ (so_1 hm) (by decide) rfl (Nat.le_of_ble_eq_true rfl) (C.mono h ?_)
    rintro _ m7 ⟨x9, rfl, hm8, h⟩
    refine ⟨_, rfl, ?_⟩
    refine r_if_eq (y := m11_needParts) (tgt := 31) dX11_needParts_12 (by decide) (fun hc10 => ?_) (fun hc10 => ?_)
    · have h := h.1 hc10
      exact r_throw (y := m11_needParts) (is := 192) (ic := 169) (text := "no such node") dX11_needParts_31 dX11_needParts_34 dX11_needParts_35 dX11_needParts_37 dX11_needParts_40 rfl (by decide +kernel) x169_ok (by decide) (Nat.le_of_ble_eq_true rfl) h
    · have h := h.2 hc10
      refine r_iload_n (y := m11_needParts) dX11_needParts_15 rfl rfl ?_
      refine r_iconst (y := m11_needParts) (v := 1) dX11_needParts_16 (by decide) ?_
      refine r_icmp_le (y := m11_needParts) (tgt := 41) dX11_needParts_17 (by decide) (fun hc11 => ?_) (fun hc11 => ?_)
      · have h := h.1 hc11
        exact r_ret (y := m11_needParts) dX11_needParts_41 rfl h
      · have h := h.2 hc11
        refine r_aload_n (y := m11_needParts) dX11_needParts_20 rfl rfl ?_
        refine g_X11_12 (y := m11_needParts) rfl dX11_needParts_21 hm8 ?_
        refine r_iload_n (y := m11_needParts) dX11_needParts_24 rfl rfl ?_
        refine r_callVN (y := m11_needParts) (As := [(.int a2)]) (b := 1) (ci := 4) dX11_needParts_25 rfl k4_has lm_X11_188 rfl ⟨by decide, by decide⟩ (so_1 hm8) (by decide) rfl (Nat.le_of_ble_eq_true rfl) (C.mono h ?_)
        rintro _ m12 ⟨x14, rfl, hm13, h⟩
        refine ⟨_, rfl, ?_⟩
        refine r_if_ne (y := m11_needParts) (tgt := 41) dX11_needParts_28 (by decide) (fun hc15 => ?_) (fun hc15 => ?_)
        · have h := h.1 hc15
          exact r_ret (y := m11_needParts) dX11_needParts_41 rfl h
        · have h := h.2 hc15
          exact r_throw (y := m11_needParts) (is := 192) (ic := 169) (text := "no such node") dX11_needParts_31 dX11_needParts_34 dX11_needParts_35 dX11_needParts_37 dX11_needParts_40 rfl (by decide +kernel) x169_ok (by decide) (Nat.le_of_ble_eq_true rfl) h
set_option maxHeartbeats 4000000 in
set_option maxRecDepth 100000 in
theorem w11_needPlace {m : Mm} {K : Option Value ⊕ String → Mm → Prop} (hm : St m) {a0 : Int32} {a1 : Int32}  (h : ((a0 < 0 → K (.inr "java/lang/IndexOutOfBoundsException") (mWaste m 1 6)) ∧ (¬ a0 < 0 → ((a0 < (mI m 541 10) → ((0 ≤ a1 → K (.inl none) m) ∧ (¬ 0 ≤ a1 → K (.inr "java/lang/IndexOutOfBoundsException") (mWaste m 1 6)))) ∧ (¬ a0 < (mI m 541 10) → K (.inr "java/lang/IndexOutOfBoundsException") (mWaste m 1 6)))))) : V m11_needPlace 0 [some (.ref 0), some (.int a0), some (.int a1)] [] m K := by
  refine r_iload_n (y := m11_needPlace) dX11_needPlace_0 rfl rfl ?_
  refine r_if_lt (y := m11_needPlace) (tgt := 15) dX11_needPlace_1 (by decide) (fun hc1 => ?_) (fun hc1 => ?_)
  · have h := h.1 hc1
    exact r_throw (y := m11_needPlace) (is := 194) (ic := 169) (text := "no such value") dX11_needPlace_15 dX11_needPlace_18 dX11_needPlace_19 dX11_needPlace_21 dX11_needPlace_24 rfl (by decide +kernel) x169_ok (by decide) (Nat.le_of_ble_eq_true rfl) h
  · have h := h.2 hc1
    refine r_iload_n (y := m11_needPlace) dX11_needPlace_4 rfl rfl ?_
    refine r_aload_n (y := m11_needPlace) dX11_needPlace_5 rfl rfl ?_
    refine g_X11_37 (y := m11_needPlace) rfl dX11_needPlace_6 hm ?_
    refine g_X11_128 (y := m11_needPlace) rfl dX11_needPlace_9 hm ?_
    refine r_icmp_lt (y := m11_needPlace) (tgt := 25) dX11_needPlace_12 (by decide) (fun hc2 => ?_) (fun hc2 => ?_)
    · have h := h.1 hc2
      refine r_iload_n (y := m11_needPlace) dX11_needPlace_25 rfl rfl ?_
      refine r_if_ge (y := m11_needPlace) (tgt := 39) dX11_needPlace_26 (by decide) (fun hc3 => ?_) (fun hc3 => ?_)
      · have h := h.1 hc3
        exact r_ret (y := m11_needPlace) dX11_needPlace_39 rfl h
      · have h := h.2 hc3
        exact r_throw (y := m11_needPlace) (is := 196) (ic := 169) (text := "no such place") dX11_needPlace_29 dX11_needPlace_32 dX11_needPlace_33 dX11_needPlace_35 dX11_needPlace_38 rfl (by decide +kernel) x169_ok (by decide) (Nat.le_of_ble_eq_true rfl) h
    · have h := h.2 hc2
      exact r_throw (y := m11_needPlace) (is := 194) (ic := 169) (text := "no such value") dX11_needPlace_15 dX11_needPlace_18 dX11_needPlace_19 dX11_needPlace_21 dX11_needPlace_24 rfl (by decide +kernel) x169_ok (by decide) (Nat.le_of_ble_eq_true rfl) h
set_option maxHeartbeats 4000000 in
set_option maxRecDepth 100000 in
theorem w11_tell {m : Mm} {K : Option Value ⊕ String → Mm → Prop} (hm : St m) {a0 : Int32} {a1 : Int32} {a2 : Int32} {a3 : Int32}  (h : C m4_hasRoom [(.ref 1), (.int a2), (.int a3)] m (fun o m1 => ∃ x3 : Int32, o = .inl (some (.int x3)) ∧ St m1 ∧ ((¬ x3 = 0 → C m4_add [(.ref 1), (.int a0), (.int a1), (.int a2), (.int a3)] m1 (fun o m5 => ∃ x7 : Int32, o = .inl (some (.int x7)) ∧ St m5 ∧ K (.inl (some (.int x7))) m5)) ∧ (x3 = 0 → K (.inr "java/lang/IllegalStateException") (mWaste m1 1 6))))) : V m11_tell 0 [some (.ref 0), some (.int a0), some (.int a1), some (.int a2), some (.int a3)] [] m K := by
  refine r_aload_n (y := m11_tell) dX11_tell_0 rfl rfl ?_
  refine g_X11_12 (y := m11_tell) rfl dX11_tell_1 hm ?_
  refine r_iload_n (y := m11_tell) dX11_tell_4 rfl rfl ?_
  refine r_iload (y := m11_tell) dX11_tell_5 rfl ?_
  refine r_callVN (y := m11_tell) (As := [(.int a2), (.int a3)]) (b := 1) (ci := 4) dX11_tell_7 rfl k4_hasRoom lm_X11_198 rfl ⟨by decide, by decide⟩ (so_1 hm) (by decide) rfl (Nat.le_of_ble_eq_true rfl) (C.mono h ?_)
  rintro _ m1 ⟨x3, rfl, hm2, h⟩
  refine ⟨_, rfl, ?_⟩
  refine r_if_ne (y := m11_tell) (tgt := 23) dX11_tell_10 (by decide) (fun hc4 => ?_) (fun hc4 => ?_)
  · have h := h.1 hc4
    refine r_aload_n (y := m11_tell) dX11_tell_23 rfl rfl ?_
    refine g_X11_12 (y := m11_tell) rfl dX11_tell_24 hm2 ?_
    refine r_iload_n (y := m11_tell) dX11_tell_27 rfl rfl ?_
    refine r_iload_n (y := m11_tell) dX11_tell_28 rfl rfl ?_
    refine r_iload_n (y := m11_tell) dX11_tell_29 rfl rfl ?_
    refine r_iload (y := m11_tell) dX11_tell_30 rfl ?_
    refine r_callVN (y := m11_tell) (As := [(.int a0), (.int a1), (.int a2), (.int a3)]) (b := 1) (ci := 4) dX11_tell_32 rfl k4_add lm_X11_204 rfl ⟨by decide, by decide⟩ (so_1 hm2) (by decide) rfl (Nat.le_of_ble_eq_true rfl) (C.mono h ?_)
    rintro _ m5 ⟨x7, rfl, hm6, h⟩
    refine ⟨_, rfl, ?_⟩
    exact r_iret (y := m11_tell) dX11_tell_35 rfl rfl h
  · have h := h.2 hc4
    exact r_throw (y := m11_tell) (is := 202) (ic := 60) (text := "80 nodes, and 12 in an expression, are the most") dX11_tell_13 dX11_tell_16 dX11_tell_17 dX11_tell_19 dX11_tell_22 rfl (by decide +kernel) x60_ok (by decide) (Nat.le_of_ble_eq_true rfl) h
set_option maxHeartbeats 4000000 in
set_option maxRecDepth 100000 in
theorem w11_numberAt {m : Mm} {K : Option Value ⊕ String → Mm → Prop} (hm : St m) {e0 ne0 : Nat} {a1 : Int32} (he0 : mS m e0 = (13, ne0)) (h : ((a1 < 0 → K (.inl (some (.int (-1)))) m) ∧ (¬ a1 < 0 → (((Int32.ofNat ne0) ≤ a1 → K (.inl (some (.int (-1)))) m) ∧ (¬ (Int32.ofNat ne0) ≤ a1 → vp_in a1 ne0 ∧ K (.inl (some (.int (mI m e0 (Int32.toNatClampNeg a1))))) m))))) : V m11_numberAt 0 [some (.ref e0), some (.int a1)] [] m K := by
  refine r_iload_n (y := m11_numberAt) dX11_numberAt_0 rfl rfl ?_
  refine r_if_lt (y := m11_numberAt) (tgt := 16) dX11_numberAt_1 (by decide) (fun hc1 => ?_) (fun hc1 => ?_)
  · have h := h.1 hc1
    refine r_iconst (y := m11_numberAt) (v := (-1)) dX11_numberAt_16 (by decide) ?_
    exact r_iret (y := m11_numberAt) dX11_numberAt_17 rfl rfl h
  · have h := h.2 hc1
    refine r_iload_n (y := m11_numberAt) dX11_numberAt_4 rfl rfl ?_
    refine r_aload_n (y := m11_numberAt) dX11_numberAt_5 rfl rfl ?_
    refine r_alen (y := m11_numberAt) (v := Int32.ofNat ne0) dX11_numberAt_6 he0 rfl ?_
    refine r_icmp_ge (y := m11_numberAt) (tgt := 16) dX11_numberAt_7 (by decide) (fun hc2 => ?_) (fun hc2 => ?_)
    · have h := h.1 hc2
      refine r_iconst (y := m11_numberAt) (v := (-1)) dX11_numberAt_16 (by decide) ?_
      exact r_iret (y := m11_numberAt) dX11_numberAt_17 rfl rfl h
    · have h := h.2 hc2
      refine r_aload_n (y := m11_numberAt) dX11_numberAt_10 rfl rfl ?_
      refine r_iload_n (y := m11_numberAt) dX11_numberAt_11 rfl rfl ?_
      obtain ⟨hb3, h⟩ := h
      refine r_iald (y := m11_numberAt) (n := ne0) dX11_numberAt_12 he0 hb3 ?_
      refine r_goto (y := m11_numberAt) (tgt := 17) dX11_numberAt_13 (by decide) ?_
      exact r_iret (y := m11_numberAt) dX11_numberAt_17 rfl rfl h
set_option maxHeartbeats 4000000 in
set_option maxRecDepth 100000 in
theorem w11_partsOfKind {m : Mm} {K : Option Value ⊕ String → Mm → Prop} (hm : St m) {a0 : Int32}  (h : K (.inl (some (.int (a0 >>> (1 &&& 31))))) m) : V m11_partsOfKind 0 [some (.int a0)] [] m K := by
  refine r_iload_n (y := m11_partsOfKind) dX11_partsOfKind_0 rfl rfl ?_
  refine r_iconst (y := m11_partsOfKind) (v := 1) dX11_partsOfKind_1 (by decide) ?_
  refine r_ishr (y := m11_partsOfKind) dX11_partsOfKind_2 ?_
  exact r_iret (y := m11_partsOfKind) dX11_partsOfKind_3 rfl rfl h
