/-! written by gen/drive.py -/
set_option maxHeartbeats 4000000 in
set_option maxRecDepth 100000 in
theorem w0_meets {m : Mm} {K : Option Value ⊕ String → Mm → Prop} (hm : St m) {e n : Nat} {e0 ne0 : Nat} (he : isExp m e n) (he0 : isExp m e0 ne0) (h : V m0_meets 17 [some (.ref e), some (.ref e0), some (.int ((mI m e 0) - 1)), some (.int ((mI m e0 0) - 1)), some (.int 0)] [] m K) : V m0_meets 0 [some (.ref e), some (.ref e0), none, none, none] [] m K := by
  refine r_aload_n (y := m0_meets) dX0_meets_0 rfl rfl ?_
  refine g_X0_15 (y := m0_meets) rfl dX0_meets_1 he ?_
  refine r_iconst (y := m0_meets) (v := 1) dX0_meets_4 (by decide) ?_
  refine r_isub (y := m0_meets) dX0_meets_5 ?_
  refine r_istore_n (y := m0_meets) (L' := [some (.ref e), some (.ref e0), some (.int ((mI m e 0) - 1)), none, none]) dX0_meets_6 rfl (Nat.le_of_ble_eq_true rfl) rfl ?_
  refine r_aload_n (y := m0_meets) dX0_meets_7 rfl rfl ?_
  refine g_X0_15 (y := m0_meets) rfl dX0_meets_8 he0 ?_
  refine r_iconst (y := m0_meets) (v := 1) dX0_meets_11 (by decide) ?_
  refine r_isub (y := m0_meets) dX0_meets_12 ?_
  refine r_istore_n (y := m0_meets) (L' := [some (.ref e), some (.ref e0), some (.int ((mI m e 0) - 1)), some (.int ((mI m e0 0) - 1)), none]) dX0_meets_13 rfl (Nat.le_of_ble_eq_true rfl) rfl ?_
  refine r_iconst (y := m0_meets) (v := 0) dX0_meets_14 (by decide) ?_
  refine r_istore (y := m0_meets) (L' := [some (.ref e), some (.ref e0), some (.int ((mI m e 0) - 1)), some (.int ((mI m e0 0) - 1)), some (.int 0)]) dX0_meets_15 (Nat.le_of_ble_eq_true rfl) rfl ?_
  exact h
set_option maxHeartbeats 4000000 in
set_option maxRecDepth 100000 in
theorem w0_meets_17 {m : Mm} {K : Option Value ⊕ String → Mm → Prop} (hm : St m) {ee0 nn0 : Nat} {ee1 nn1 : Nat} {v2 : Int32} {v3 : Int32} {v4 : Int32} (hee0 : isExp m ee0 nn0) (hee1 : isExp m ee1 nn1) (h : ((12 ≤ v4 → K (.inl (some (.int 1))) m) ∧ (¬ 12 ≤ v4 → ((v2 < 0 → K (.inl (some (.int 1))) m) ∧ (¬ v2 < 0 → ((v3 < 0 → K (.inl (some (.int 1))) m) ∧ (¬ v3 < 0 → vp_in v2 nn0 ∧ (((mI m (ee0 + 1) (Int32.toNatClampNeg v2)) = 0 → vp_in v2 nn0 ∧ vp_in v3 nn1 ∧ V m0_meets 17 [some (.ref ee0), some (.ref ee1), some (.int ((mI m (ee0 + 5) (Int32.toNatClampNeg v2)) - 1)), some (.int ((mI m (ee1 + 5) (Int32.toNatClampNeg v3)) - 1)), some (.int (v4 + 1))] [] m K) ∧ (¬ (mI m (ee0 + 1) (Int32.toNatClampNeg v2)) = 0 → vp_in v3 nn1 ∧ ((¬ (mI m (ee1 + 1) (Int32.toNatClampNeg v3)) = 0 → vp_in v2 nn0 ∧ vp_in v3 nn1 ∧ (((mI m (ee0 + 2) (Int32.toNatClampNeg v2)) = (mI m (ee1 + 2) (Int32.toNatClampNeg v3)) → V m0_meets 17 [some (.ref ee0), some (.ref ee1), some (.int (v2 + (-1))), some (.int (v3 + (-1))), some (.int (v4 + 1))] [] m K) ∧ (¬ (mI m (ee0 + 2) (Int32.toNatClampNeg v2)) = (mI m (ee1 + 2) (Int32.toNatClampNeg v3)) → K (.inl (some (.int 0))) m))) ∧ ((mI m (ee1 + 1) (Int32.toNatClampNeg v3)) = 0 → vp_in v2 nn0 ∧ vp_in v3 nn1 ∧ V m0_meets 17 [some (.ref ee0), some (.ref ee1), some (.int ((mI m (ee0 + 5) (Int32.toNatClampNeg v2)) - 1)), some (.int ((mI m (ee1 + 5) (Int32.toNatClampNeg v3)) - 1)), some (.int (v4 + 1))] [] m K))))))))))) : V m0_meets 17 [some (.ref ee0), some (.ref ee1), some (.int v2), some (.int v3), some (.int v4)] [] m K := by
  refine r_iload (y := m0_meets) dX0_meets_17 rfl ?_
  refine r_bipush (y := m0_meets) (v := 12) dX0_meets_19 (by decide) ?_
  refine r_icmp_ge (y := m0_meets) (tgt := 100) dX0_meets_21 (by decide) (fun hc1 => ?_) (fun hc1 => ?_)
  · have h := h.1 hc1
    refine r_iconst (y := m0_meets) (v := 1) dX0_meets_100 (by decide) ?_
    exact r_iret (y := m0_meets) (ty := .boolean) dX0_meets_101 rfl (by decide) h
  · have h := h.2 hc1
    refine r_iload_n (y := m0_meets) dX0_meets_24 rfl rfl ?_
    refine r_if_lt (y := m0_meets) (tgt := 100) dX0_meets_25 (by decide) (fun hc2 => ?_) (fun hc2 => ?_)
    · have h := h.1 hc2
      refine r_iconst (y := m0_meets) (v := 1) dX0_meets_100 (by decide) ?_
      exact r_iret (y := m0_meets) (ty := .boolean) dX0_meets_101 rfl (by decide) h
    · have h := h.2 hc2
      refine r_iload_n (y := m0_meets) dX0_meets_28 rfl rfl ?_
      refine r_if_lt (y := m0_meets) (tgt := 100) dX0_meets_29 (by decide) (fun hc3 => ?_) (fun hc3 => ?_)
      · have h := h.1 hc3
        refine r_iconst (y := m0_meets) (v := 1) dX0_meets_100 (by decide) ?_
        exact r_iret (y := m0_meets) (ty := .boolean) dX0_meets_101 rfl (by decide) h
      · have h := h.2 hc3
        refine r_aload_n (y := m0_meets) dX0_meets_32 rfl rfl ?_
        refine g_X0_21 (y := m0_meets) rfl dX0_meets_33 hee0 ?_
        refine r_iload_n (y := m0_meets) dX0_meets_36 rfl rfl ?_
        obtain ⟨hb4, h⟩ := h
        refine r_iald (y := m0_meets) (n := nn0) dX0_meets_37 (hee0.2 1 (by decide) (by decide)).2 hb4 ?_
        refine r_if_eq (y := m0_meets) (tgt := 50) dX0_meets_38 (by decide) (fun hc5 => ?_) (fun hc5 => ?_)
        · have h := h.1 hc5
          refine r_aload_n (y := m0_meets) dX0_meets_50 rfl rfl ?_
          refine g_X0_34 (y := m0_meets) rfl dX0_meets_51 hee0 ?_
          refine r_iload_n (y := m0_meets) dX0_meets_54 rfl rfl ?_
          obtain ⟨hb6, h⟩ := h
          refine r_iald (y := m0_meets) (n := nn0) dX0_meets_55 (hee0.2 5 (by decide) (by decide)).2 hb6 ?_
          refine r_iconst (y := m0_meets) (v := 1) dX0_meets_56 (by decide) ?_
          refine r_isub (y := m0_meets) dX0_meets_57 ?_
          refine r_istore_n (y := m0_meets) (L' := [some (.ref ee0), some (.ref ee1), some (.int ((mI m (ee0 + 5) (Int32.toNatClampNeg v2)) - 1)), some (.int v3), some (.int v4)]) dX0_meets_58 rfl (Nat.le_of_ble_eq_true rfl) rfl ?_
          refine r_aload_n (y := m0_meets) dX0_meets_59 rfl rfl ?_
          refine g_X0_34 (y := m0_meets) rfl dX0_meets_60 hee1 ?_
          refine r_iload_n (y := m0_meets) dX0_meets_63 rfl rfl ?_
          obtain ⟨hb7, h⟩ := h
          refine r_iald (y := m0_meets) (n := nn1) dX0_meets_64 (hee1.2 5 (by decide) (by decide)).2 hb7 ?_
          refine r_iconst (y := m0_meets) (v := 1) dX0_meets_65 (by decide) ?_
          refine r_isub (y := m0_meets) dX0_meets_66 ?_
          refine r_istore_n (y := m0_meets) (L' := [some (.ref ee0), some (.ref ee1), some (.int ((mI m (ee0 + 5) (Int32.toNatClampNeg v2)) - 1)), some (.int ((mI m (ee1 + 5) (Int32.toNatClampNeg v3)) - 1)), some (.int v4)]) dX0_meets_67 rfl (Nat.le_of_ble_eq_true rfl) rfl ?_
          refine r_goto (y := m0_meets) (tgt := 94) dX0_meets_68 (by decide) ?_
          refine r_iinc (y := m0_meets) (v := (v4 + 1)) (L' := [some (.ref ee0), some (.ref ee1), some (.int ((mI m (ee0 + 5) (Int32.toNatClampNeg v2)) - 1)), some (.int ((mI m (ee1 + 5) (Int32.toNatClampNeg v3)) - 1)), some (.int (v4 + 1))]) dX0_meets_94 rfl (by rfl) rfl ?_
          refine r_goto (y := m0_meets) (tgt := 17) dX0_meets_97 (by decide) ?_
          exact h
        · have h := h.2 hc5
          refine r_aload_n (y := m0_meets) dX0_meets_41 rfl rfl ?_
          refine g_X0_21 (y := m0_meets) rfl dX0_meets_42 hee1 ?_
          refine r_iload_n (y := m0_meets) dX0_meets_45 rfl rfl ?_
          obtain ⟨hb8, h⟩ := h
          refine r_iald (y := m0_meets) (n := nn1) dX0_meets_46 (hee1.2 1 (by decide) (by decide)).2 hb8 ?_
          refine r_if_ne (y := m0_meets) (tgt := 71) dX0_meets_47 (by decide) (fun hc9 => ?_) (fun hc9 => ?_)
          · have h := h.1 hc9
            refine r_aload_n (y := m0_meets) dX0_meets_71 rfl rfl ?_
            refine g_X0_25 (y := m0_meets) rfl dX0_meets_72 hee0 ?_
            refine r_iload_n (y := m0_meets) dX0_meets_75 rfl rfl ?_
            obtain ⟨hb10, h⟩ := h
            refine r_iald (y := m0_meets) (n := nn0) dX0_meets_76 (hee0.2 2 (by decide) (by decide)).2 hb10 ?_
            refine r_aload_n (y := m0_meets) dX0_meets_77 rfl rfl ?_
            refine g_X0_25 (y := m0_meets) rfl dX0_meets_78 hee1 ?_
            refine r_iload_n (y := m0_meets) dX0_meets_81 rfl rfl ?_
            obtain ⟨hb11, h⟩ := h
            refine r_iald (y := m0_meets) (n := nn1) dX0_meets_82 (hee1.2 2 (by decide) (by decide)).2 hb11 ?_
            refine r_icmp_eq (y := m0_meets) (tgt := 88) dX0_meets_83 (by decide) (fun hc12 => ?_) (fun hc12 => ?_)
            · have h := h.1 hc12
              refine r_iinc (y := m0_meets) (v := (v2 + (-1))) (L' := [some (.ref ee0), some (.ref ee1), some (.int (v2 + (-1))), some (.int v3), some (.int v4)]) dX0_meets_88 rfl (by rfl) rfl ?_
              refine r_iinc (y := m0_meets) (v := (v3 + (-1))) (L' := [some (.ref ee0), some (.ref ee1), some (.int (v2 + (-1))), some (.int (v3 + (-1))), some (.int v4)]) dX0_meets_91 rfl (by rfl) rfl ?_
              refine r_iinc (y := m0_meets) (v := (v4 + 1)) (L' := [some (.ref ee0), some (.ref ee1), some (.int (v2 + (-1))), some (.int (v3 + (-1))), some (.int (v4 + 1))]) dX0_meets_94 rfl (by rfl) rfl ?_
              refine r_goto (y := m0_meets) (tgt := 17) dX0_meets_97 (by decide) ?_
              exact h
            · have h := h.2 hc12
              refine r_iconst (y := m0_meets) (v := 0) dX0_meets_86 (by decide) ?_
              exact r_iret (y := m0_meets) (ty := .boolean) dX0_meets_87 rfl (by decide) h
          · have h := h.2 hc9
            refine r_aload_n (y := m0_meets) dX0_meets_50 rfl rfl ?_
            refine g_X0_34 (y := m0_meets) rfl dX0_meets_51 hee0 ?_
            refine r_iload_n (y := m0_meets) dX0_meets_54 rfl rfl ?_
            obtain ⟨hb13, h⟩ := h
            refine r_iald (y := m0_meets) (n := nn0) dX0_meets_55 (hee0.2 5 (by decide) (by decide)).2 hb13 ?_
            refine r_iconst (y := m0_meets) (v := 1) dX0_meets_56 (by decide) ?_
            refine r_isub (y := m0_meets) dX0_meets_57 ?_
            refine r_istore_n (y := m0_meets) (L' := [some (.ref ee0), some (.ref ee1), some (.int ((mI m (ee0 + 5) (Int32.toNatClampNeg v2)) - 1)), some (.int v3), some (.int v4)]) dX0_meets_58 rfl (Nat.le_of_ble_eq_true rfl) rfl ?_
            refine r_aload_n (y := m0_meets) dX0_meets_59 rfl rfl ?_
            refine g_X0_34 (y := m0_meets) rfl dX0_meets_60 hee1 ?_
            refine r_iload_n (y := m0_meets) dX0_meets_63 rfl rfl ?_
            obtain ⟨hb14, h⟩ := h
            refine r_iald (y := m0_meets) (n := nn1) dX0_meets_64 (hee1.2 5 (by decide) (by decide)).2 hb14 ?_
            refine r_iconst (y := m0_meets) (v := 1) dX0_meets_65 (by decide) ?_
            refine r_isub (y := m0_meets) dX0_meets_66 ?_
            refine r_istore_n (y := m0_meets) (L' := [some (.ref ee0), some (.ref ee1), some (.int ((mI m (ee0 + 5) (Int32.toNatClampNeg v2)) - 1)), some (.int ((mI m (ee1 + 5) (Int32.toNatClampNeg v3)) - 1)), some (.int v4)]) dX0_meets_67 rfl (Nat.le_of_ble_eq_true rfl) rfl ?_
            refine r_goto (y := m0_meets) (tgt := 94) dX0_meets_68 (by decide) ?_
            refine r_iinc (y := m0_meets) (v := (v4 + 1)) (L' := [some (.ref ee0), some (.ref ee1), some (.int ((mI m (ee0 + 5) (Int32.toNatClampNeg v2)) - 1)), some (.int ((mI m (ee1 + 5) (Int32.toNatClampNeg v3)) - 1)), some (.int (v4 + 1))]) dX0_meets_94 rfl (by rfl) rfl ?_
            refine r_goto (y := m0_meets) (tgt := 17) dX0_meets_97 (by decide) ?_
            exact h
set_option maxHeartbeats 4000000 in
set_option maxRecDepth 100000 in
theorem w0_isMany {m : Mm} {K : Option Value ⊕ String → Mm → Prop} (hm : St m) {e n : Nat} {a0 : Int32} {a1 : Int32} (he : isExp m e n) (h : V m0_isMany 2 [some (.ref e), some (.int a0), some (.int a1), some (.int 0)] [] m K) : V m0_isMany 0 [some (.ref e), some (.int a0), some (.int a1), none] [] m K := by
  refine r_iconst (y := m0_isMany) (v := 0) dX0_isMany_0 (by decide) ?_
  refine r_istore_n (y := m0_isMany) (L' := [some (.ref e), some (.int a0), some (.int a1), some (.int 0)]) dX0_isMany_1 rfl (Nat.le_of_ble_eq_true rfl) rfl ?_
  exact h
set_option maxHeartbeats 4000000 in
set_option maxRecDepth 100000 in
theorem w0_isMany_2 {m : Mm} {K : Option Value ⊕ String → Mm → Prop} (hm : St m) {ee0 nn0 : Nat} {v1 : Int32} {v2 : Int32} {v3 : Int32} (hee0 : isExp m ee0 nn0) (h : (((mI m ee0 0) ≤ v3 → K (.inl (some (.int 0))) m) ∧ (¬ (mI m ee0 0) ≤ v3 → vp_in v3 nn0 ∧ ((¬ (mI m (ee0 + 6) (Int32.toNatClampNeg v3)) = 0 → V m0_isMany 2 [some (.ref ee0), some (.int v1), some (.int v2), some (.int (v3 + 1))] [] m K) ∧ ((mI m (ee0 + 6) (Int32.toNatClampNeg v3)) = 0 → vp_in v3 nn0 ∧ (((mI m (ee0 + 1) (Int32.toNatClampNeg v3)) = 3 → K (.inl (some (.int 1))) m) ∧ (¬ (mI m (ee0 + 1) (Int32.toNatClampNeg v3)) = 3 → vp_in v3 nn0 ∧ ((¬ (mI m (ee0 + 1) (Int32.toNatClampNeg v3)) = 0 → vp_in v3 nn0 ∧ ((¬ (mI m (ee0 + 1) (Int32.toNatClampNeg v3)) = 2 → V m0_isMany 2 [some (.ref ee0), some (.int v1), some (.int v2), some (.int (v3 + 1))] [] m K) ∧ ((mI m (ee0 + 1) (Int32.toNatClampNeg v3)) = 2 → vp_in v3 nn0 ∧ ((((v2 >>> ((mI m (ee0 + 2) (Int32.toNatClampNeg v3)) &&& 31)) &&& 1) = 0 → V m0_isMany 2 [some (.ref ee0), some (.int v1), some (.int v2), some (.int (v3 + 1))] [] m K) ∧ (¬ ((v2 >>> ((mI m (ee0 + 2) (Int32.toNatClampNeg v3)) &&& 31)) &&& 1) = 0 → K (.inl (some (.int 1))) m))))) ∧ ((mI m (ee0 + 1) (Int32.toNatClampNeg v3)) = 0 → vp_in v3 nn0 ∧ ((((v1 >>> ((mI m (ee0 + 2) (Int32.toNatClampNeg v3)) &&& 31)) &&& 1) = 0 → K (.inl (some (.int 1))) m) ∧ (¬ ((v1 >>> ((mI m (ee0 + 2) (Int32.toNatClampNeg v3)) &&& 31)) &&& 1) = 0 → vp_in v3 nn0 ∧ ((¬ (mI m (ee0 + 1) (Int32.toNatClampNeg v3)) = 2 → V m0_isMany 2 [some (.ref ee0), some (.int v1), some (.int v2), some (.int (v3 + 1))] [] m K) ∧ ((mI m (ee0 + 1) (Int32.toNatClampNeg v3)) = 2 → vp_in v3 nn0 ∧ ((((v2 >>> ((mI m (ee0 + 2) (Int32.toNatClampNeg v3)) &&& 31)) &&& 1) = 0 → V m0_isMany 2 [some (.ref ee0), some (.int v1), some (.int v2), some (.int (v3 + 1))] [] m K) ∧ (¬ ((v2 >>> ((mI m (ee0 + 2) (Int32.toNatClampNeg v3)) &&& 31)) &&& 1) = 0 → K (.inl (some (.int 1))) m))))))))))))))) : V m0_isMany 2 [some (.ref ee0), some (.int v1), some (.int v2), some (.int v3)] [] m K := by
  refine r_iload_n (y := m0_isMany) dX0_isMany_2 rfl rfl ?_
  refine r_aload_n (y := m0_isMany) dX0_isMany_3 rfl rfl ?_
  refine g_X0_15 (y := m0_isMany) rfl dX0_isMany_4 hee0 ?_
  refine r_icmp_ge (y := m0_isMany) (tgt := 82) dX0_isMany_7 (by decide) (fun hc1 => ?_) (fun hc1 => ?_)
  · have h := h.1 hc1
    refine r_iconst (y := m0_isMany) (v := 0) dX0_isMany_82 (by decide) ?_
    exact r_iret (y := m0_isMany) (ty := .boolean) dX0_isMany_83 rfl (by decide) h
  · have h := h.2 hc1
    refine r_aload_n (y := m0_isMany) dX0_isMany_10 rfl rfl ?_
    refine g_X0_37 (y := m0_isMany) rfl dX0_isMany_11 hee0 ?_
    refine r_iload_n (y := m0_isMany) dX0_isMany_14 rfl rfl ?_
    obtain ⟨hb2, h⟩ := h
    refine r_iald (y := m0_isMany) (n := nn0) dX0_isMany_15 (hee0.2 6 (by decide) (by decide)).2 hb2 ?_
    refine r_if_ne (y := m0_isMany) (tgt := 76) dX0_isMany_16 (by decide) (fun hc3 => ?_) (fun hc3 => ?_)
    · have h := h.1 hc3
      refine r_iinc (y := m0_isMany) (v := (v3 + 1)) (L' := [some (.ref ee0), some (.int v1), some (.int v2), some (.int (v3 + 1))]) dX0_isMany_76 rfl (by rfl) rfl ?_
      refine r_goto (y := m0_isMany) (tgt := 2) dX0_isMany_79 (by decide) ?_
      exact h
    · have h := h.2 hc3
      refine r_aload_n (y := m0_isMany) dX0_isMany_19 rfl rfl ?_
      refine g_X0_21 (y := m0_isMany) rfl dX0_isMany_20 hee0 ?_
      refine r_iload_n (y := m0_isMany) dX0_isMany_23 rfl rfl ?_
      obtain ⟨hb4, h⟩ := h
      refine r_iald (y := m0_isMany) (n := nn0) dX0_isMany_24 (hee0.2 1 (by decide) (by decide)).2 hb4 ?_
      refine r_iconst (y := m0_isMany) (v := 3) dX0_isMany_25 (by decide) ?_
      refine r_icmp_eq (y := m0_isMany) (tgt := 74) dX0_isMany_26 (by decide) (fun hc5 => ?_) (fun hc5 => ?_)
      · have h := h.1 hc5
        refine r_iconst (y := m0_isMany) (v := 1) dX0_isMany_74 (by decide) ?_
        exact r_iret (y := m0_isMany) (ty := .boolean) dX0_isMany_75 rfl (by decide) h
      · have h := h.2 hc5
        refine r_aload_n (y := m0_isMany) dX0_isMany_29 rfl rfl ?_
        refine g_X0_21 (y := m0_isMany) rfl dX0_isMany_30 hee0 ?_
        refine r_iload_n (y := m0_isMany) dX0_isMany_33 rfl rfl ?_
        obtain ⟨hb6, h⟩ := h
        refine r_iald (y := m0_isMany) (n := nn0) dX0_isMany_34 (hee0.2 1 (by decide) (by decide)).2 hb6 ?_
        refine r_if_ne (y := m0_isMany) (tgt := 51) dX0_isMany_35 (by decide) (fun hc7 => ?_) (fun hc7 => ?_)
        · have h := h.1 hc7
          refine r_aload_n (y := m0_isMany) dX0_isMany_51 rfl rfl ?_
          refine g_X0_21 (y := m0_isMany) rfl dX0_isMany_52 hee0 ?_
          refine r_iload_n (y := m0_isMany) dX0_isMany_55 rfl rfl ?_
          obtain ⟨hb8, h⟩ := h
          refine r_iald (y := m0_isMany) (n := nn0) dX0_isMany_56 (hee0.2 1 (by decide) (by decide)).2 hb8 ?_
          refine r_iconst (y := m0_isMany) (v := 2) dX0_isMany_57 (by decide) ?_
          refine r_icmp_ne (y := m0_isMany) (tgt := 76) dX0_isMany_58 (by decide) (fun hc9 => ?_) (fun hc9 => ?_)
          · have h := h.1 hc9
            refine r_iinc (y := m0_isMany) (v := (v3 + 1)) (L' := [some (.ref ee0), some (.int v1), some (.int v2), some (.int (v3 + 1))]) dX0_isMany_76 rfl (by rfl) rfl ?_
            refine r_goto (y := m0_isMany) (tgt := 2) dX0_isMany_79 (by decide) ?_
            exact h
          · have h := h.2 hc9
            refine r_iload_n (y := m0_isMany) dX0_isMany_61 rfl rfl ?_
            refine r_aload_n (y := m0_isMany) dX0_isMany_62 rfl rfl ?_
            refine g_X0_25 (y := m0_isMany) rfl dX0_isMany_63 hee0 ?_
            refine r_iload_n (y := m0_isMany) dX0_isMany_66 rfl rfl ?_
            obtain ⟨hb10, h⟩ := h
            refine r_iald (y := m0_isMany) (n := nn0) dX0_isMany_67 (hee0.2 2 (by decide) (by decide)).2 hb10 ?_
            refine r_ishr (y := m0_isMany) dX0_isMany_68 ?_
            refine r_iconst (y := m0_isMany) (v := 1) dX0_isMany_69 (by decide) ?_
            refine r_iand (y := m0_isMany) dX0_isMany_70 ?_
            refine r_if_eq (y := m0_isMany) (tgt := 76) dX0_isMany_71 (by decide) (fun hc11 => ?_) (fun hc11 => ?_)
            · have h := h.1 hc11
              refine r_iinc (y := m0_isMany) (v := (v3 + 1)) (L' := [some (.ref ee0), some (.int v1), some (.int v2), some (.int (v3 + 1))]) dX0_isMany_76 rfl (by rfl) rfl ?_
              refine r_goto (y := m0_isMany) (tgt := 2) dX0_isMany_79 (by decide) ?_
              exact h
            · have h := h.2 hc11
              refine r_iconst (y := m0_isMany) (v := 1) dX0_isMany_74 (by decide) ?_
              exact r_iret (y := m0_isMany) (ty := .boolean) dX0_isMany_75 rfl (by decide) h
        · have h := h.2 hc7
          refine r_iload_n (y := m0_isMany) dX0_isMany_38 rfl rfl ?_
          refine r_aload_n (y := m0_isMany) dX0_isMany_39 rfl rfl ?_
          refine g_X0_25 (y := m0_isMany) rfl dX0_isMany_40 hee0 ?_
          refine r_iload_n (y := m0_isMany) dX0_isMany_43 rfl rfl ?_
          obtain ⟨hb12, h⟩ := h
          refine r_iald (y := m0_isMany) (n := nn0) dX0_isMany_44 (hee0.2 2 (by decide) (by decide)).2 hb12 ?_
          refine r_ishr (y := m0_isMany) dX0_isMany_45 ?_
          refine r_iconst (y := m0_isMany) (v := 1) dX0_isMany_46 (by decide) ?_
          refine r_iand (y := m0_isMany) dX0_isMany_47 ?_
          refine r_if_eq (y := m0_isMany) (tgt := 74) dX0_isMany_48 (by decide) (fun hc13 => ?_) (fun hc13 => ?_)
          · have h := h.1 hc13
            refine r_iconst (y := m0_isMany) (v := 1) dX0_isMany_74 (by decide) ?_
            exact r_iret (y := m0_isMany) (ty := .boolean) dX0_isMany_75 rfl (by decide) h
          · have h := h.2 hc13
            refine r_aload_n (y := m0_isMany) dX0_isMany_51 rfl rfl ?_
            refine g_X0_21 (y := m0_isMany) rfl dX0_isMany_52 hee0 ?_
            refine r_iload_n (y := m0_isMany) dX0_isMany_55 rfl rfl ?_
            obtain ⟨hb14, h⟩ := h
            refine r_iald (y := m0_isMany) (n := nn0) dX0_isMany_56 (hee0.2 1 (by decide) (by decide)).2 hb14 ?_
            refine r_iconst (y := m0_isMany) (v := 2) dX0_isMany_57 (by decide) ?_
            refine r_icmp_ne (y := m0_isMany) (tgt := 76) dX0_isMany_58 (by decide) (fun hc15 => ?_) (fun hc15 => ?_)
            · have h := h.1 hc15
              refine r_iinc (y := m0_isMany) (v := (v3 + 1)) (L' := [some (.ref ee0), some (.int v1), some (.int v2), some (.int (v3 + 1))]) dX0_isMany_76 rfl (by rfl) rfl ?_
              refine r_goto (y := m0_isMany) (tgt := 2) dX0_isMany_79 (by decide) ?_
              exact h
            · have h := h.2 hc15
              refine r_iload_n (y := m0_isMany) dX0_isMany_61 rfl rfl ?_
              refine r_aload_n (y := m0_isMany) dX0_isMany_62 rfl rfl ?_
              refine g_X0_25 (y := m0_isMany) rfl dX0_isMany_63 hee0 ?_
              refine r_iload_n (y := m0_isMany) dX0_isMany_66 rfl rfl ?_
              obtain ⟨hb16, h⟩ := h
              refine r_iald (y := m0_isMany) (n := nn0) dX0_isMany_67 (hee0.2 2 (by decide) (by decide)).2 hb16 ?_
              refine r_ishr (y := m0_isMany) dX0_isMany_68 ?_
              refine r_iconst (y := m0_isMany) (v := 1) dX0_isMany_69 (by decide) ?_
              refine r_iand (y := m0_isMany) dX0_isMany_70 ?_
              refine r_if_eq (y := m0_isMany) (tgt := 76) dX0_isMany_71 (by decide) (fun hc17 => ?_) (fun hc17 => ?_)
              · have h := h.1 hc17
                refine r_iinc (y := m0_isMany) (v := (v3 + 1)) (L' := [some (.ref ee0), some (.int v1), some (.int v2), some (.int (v3 + 1))]) dX0_isMany_76 rfl (by rfl) rfl ?_
                refine r_goto (y := m0_isMany) (tgt := 2) dX0_isMany_79 (by decide) ?_
                exact h
              · have h := h.2 hc17
                refine r_iconst (y := m0_isMany) (v := 1) dX0_isMany_74 (by decide) ?_
                exact r_iret (y := m0_isMany) (ty := .boolean) dX0_isMany_75 rfl (by decide) h
