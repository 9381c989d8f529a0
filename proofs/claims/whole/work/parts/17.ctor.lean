/-! written by gen/ctor2.py -/
theorem c0_X7 {g : Nat → Nat → Prop} {c z k : Nat} {m : Mm} {i : Nat} (hi : i < 102) (hk : k = 31 + 2 * i) (hB : Bld (k + 1) (fun a j => g a j ∨ a = k) c z m) : C m7_init [.ref k] m (fun o m' => o = .inl none ∧ Bld (k + 2) g (c + 1) (z + 6) m') := by
  subst hk
  refine C.mono (c_X7 (g := g) hi (hB.close (by omega) rfl rfl (fun _ _ q => Or.inl q))) (fun o m' h => ⟨h.1, h.2.close (by omega) rfl rfl (fun _ _ q => Or.inl q)⟩)
theorem c0_X2 {g : Nat → Nat → Prop} {c z k : Nat} {m : Mm} {i : Nat} (hi : i < 102) (hk : k = 235 + 3 * i) (hB : Bld (k + 1) (fun a j => g a j ∨ a = k) c z m) : C m2_init [.ref k] m (fun o m' => o = .inl none ∧ Bld (k + 3) g (c + 2) (z + 80) m') := by
  subst hk
  refine C.mono (c_X2 (g := g) hi (hB.close (by omega) rfl rfl (fun _ _ q => Or.inl q))) (fun o m' h => ⟨h.1, h.2.close (by omega) rfl rfl (fun _ _ q => Or.inl q)⟩)
theorem c0_X1 {g : Nat → Nat → Prop} {c z k : Nat} {m : Mm} {i : Nat} (hi : i < 10) (hk : k = 548 + 12 * i) (hB : Bld (k + 1) (fun a j => g a j ∨ a = k) c z m) : C m1_init [.ref k] m (fun o m' => o = .inl none ∧ Bld (k + 12) g (c + 11) (z + 408) m') := by
  subst hk
  have h1 := C.mono (c_X1 (g := g) hi (hB.close (by omega) rfl rfl (fun _ _ q => Or.inl q))) (fun o m' h => (show o = .inl none ∧ Bld (548 + 12 * i + 12) g (c + 11) (z + 408) m' from ⟨h.1, h.2.close (by omega) rfl rfl (fun _ _ q => Or.inl q)⟩))
  exact h1
set_option maxHeartbeats 4000000 in
set_option maxRecDepth 100000 in
theorem l1_X3 {g : Nat → Nat → Prop} {K : Option Value ⊕ String → Mm → Prop} (hg : ∀ a j, g a j → a < 12) : ∀ (q n : Nat), n + q = 102 → ∀ {c z : Nat} {m : Mm}, Bld (31 + 2 * n) (fun a j => g a j ∨ (a = 12 ∧ j = 6) ∨ (a = 28 ∧ n ≤ j) ∨ a = 29) c z m → (∀ m', Bld (31 + 2 * 102) (fun a j => g a j ∨ (a = 12 ∧ j = 6) ∨ (a = 28 ∧ 102 ≤ j) ∨ a = 29) (c + 2 * q) (z + 10 * q) m' → V m3_init 119 [some (.ref 12), some (.ref 7), some (.int (nn 102))] [] m' K) → V m3_init 94 [some (.ref 12), some (.ref 7), some (.int (nn n))] [] m K
  | 0, n, hn, c, z, m, hB, hK => by
    have e : n = 102 := by omega
    subst e
    refine r_iload_n (y := m3_init) dX3_init_94 rfl rfl ?_
    refine r_bipush (y := m3_init) (v := 102) dX3_init_95 (by decide) ?_
    refine r_icmp_ge (y := m3_init) (tgt := 119) dX3_init_97 (by decide) (fun hc => ?_) (fun hc => ?_)
    · exact hK m hB
    · exact (hc (by decide)).elim
  | q + 1, n, hn, c, z, m, hB, hK => by
    have hlt : n < 102 := by omega
    refine r_iload_n (y := m3_init) dX3_init_94 rfl rfl ?_
    refine r_bipush (y := m3_init) (v := 102) dX3_init_95 (by decide) ?_
    refine r_icmp_ge (y := m3_init) (tgt := 119) dX3_init_97 (by decide) (fun hc => ?_) (fun hc => ?_)
    · exact absurd ((nn_le (a := 102) (b := n) (by decide) (by omega)).mp hc) (by omega)
    refine r_aload_n (y := m3_init) dX3_init_100 rfl rfl ?_
    refine r_getR (y := m3_init) (ci := 3) (j := 3) (r := some 28) dX3_init_101 (congrArg Prod.fst ((hB.kd (by omega)).trans (show shp 12 = (3, 0) from rfl))) (by decide) (by decide) (by decide) (r3_law _ (List.mem_of_getElem? (i := 15) rfl)) (hB.get rfl (fun h => by
      rcases h with h | h | h | h
      · have := hg _ _ h
        omega
      · omega
      · omega
      · omega) (by omega)) ?_
    refine r_iload_n (y := m3_init) dX3_init_104 rfl rfl ?_
    refine r_newk (y := m3_init) (ci := 7) (k := 31 + 2 * n) hB.1 dX3_init_105 (by decide) cl_X3_25 (by decide +kernel) (by decide +kernel) ?_
    have hB1 := hB.obj (kd := 7) (zz := 4) (sh_sc hlt).1
    have hB2 : Bld (31 + 2 * n + 1) (fun a j => (g a j ∨ (a = 12 ∧ j = 6) ∨ (a = 28 ∧ n ≤ j) ∨ a = 29) ∨ a = 31 + 2 * n) (c + 1) (z + 4) (mNew m 7 0 (clsOf 7).2.2) := hB1
    refine r_dup_r (y := m3_init) dX3_init_108 ?_
    refine r_callIN (y := m3_init) (As := []) (b := 31 + 2 * n) dX3_init_109 rfl k7_init lm_X3_67 rfl ⟨by decide, by decide⟩ (Nat.le_of_ble_eq_true rfl) (C.mono (c0_X7 hlt rfl hB2) ?_)
    rintro _ m2 ⟨rfl, hB3⟩
    refine ⟨none, rfl, ?_⟩
    refine r_aast (y := m3_init) (kd := 18) (n := 102) dX3_init_112 ((hB3.kd (by omega)).trans rfl) (by decide) (by decide) ((congrArg Prod.fst ((hB3.kd (by omega)).trans (sh_sc hlt).1)).trans rfl) (nn_in (by omega) hlt) ?_
    rw [nn_tn (by omega)]
    refine r_iinc (y := m3_init) (v := nn (n + 1)) (L' := [some (.ref 12), some (.ref 7), some (.int (nn (n + 1)))]) dX3_init_113 rfl (by first | rfl | exact (nn_one n).symm | exact nn_one n) rfl ?_
    refine r_goto (y := m3_init) (tgt := 94) dX3_init_116 (by decide) ?_
    refine l1_X3 hg q (n + 1) (by omega) ((hB3.putR (a := 28) (j := n) (b := 31 + 2 * n) (if_pos hlt)).close (by omega) rfl rfl (fun a j h => ?_)) (fun m' h => hK m' (h.close rfl (by omega) (by omega) (fun _ _ w => Or.inl w)))
    rcases h with ⟨h1 | h1 | h1 | h1, h2⟩
    · exact Or.inl (Or.inl h1)
    · exact Or.inl (Or.inr (Or.inl h1))
    · refine Or.inl (Or.inr (Or.inr (Or.inl ⟨h1.1, ?_⟩)))
      have : j ≠ n := fun e => h2 ⟨h1.1, e⟩
      omega
    · exact Or.inl (Or.inr (Or.inr (Or.inr h1)))

set_option maxHeartbeats 4000000 in
set_option maxRecDepth 100000 in
theorem l2_X3 {g : Nat → Nat → Prop} {K : Option Value ⊕ String → Mm → Prop} (hg : ∀ a j, g a j → a < 12) : ∀ (q n : Nat), n + q = 102 → ∀ {c z : Nat} {m : Mm}, Bld (235 + 3 * n) (fun a j => g a j ∨ (a = 12 ∧ j = 6) ∨ (a = 29 ∧ n ≤ j)) c z m → (∀ m', Bld (235 + 3 * 102) (fun a j => g a j ∨ (a = 12 ∧ j = 6) ∨ (a = 29 ∧ 102 ≤ j)) (c + 3 * q) (z + 88 * q) m' → V m3_init 146 [some (.ref 12), some (.ref 7), some (.int (nn 102))] [] m' K) → V m3_init 121 [some (.ref 12), some (.ref 7), some (.int (nn n))] [] m K
  | 0, n, hn, c, z, m, hB, hK => by
    have e : n = 102 := by omega
    subst e
    refine r_iload_n (y := m3_init) dX3_init_121 rfl rfl ?_
    refine r_bipush (y := m3_init) (v := 102) dX3_init_122 (by decide) ?_
    refine r_icmp_ge (y := m3_init) (tgt := 146) dX3_init_124 (by decide) (fun hc => ?_) (fun hc => ?_)
    · exact hK m hB
    · exact (hc (by decide)).elim
  | q + 1, n, hn, c, z, m, hB, hK => by
    have hlt : n < 102 := by omega
    refine r_iload_n (y := m3_init) dX3_init_121 rfl rfl ?_
    refine r_bipush (y := m3_init) (v := 102) dX3_init_122 (by decide) ?_
    refine r_icmp_ge (y := m3_init) (tgt := 146) dX3_init_124 (by decide) (fun hc => ?_) (fun hc => ?_)
    · exact absurd ((nn_le (a := 102) (b := n) (by decide) (by omega)).mp hc) (by omega)
    refine r_aload_n (y := m3_init) dX3_init_127 rfl rfl ?_
    refine r_getR (y := m3_init) (ci := 3) (j := 4) (r := some 29) dX3_init_128 (congrArg Prod.fst ((hB.kd (by omega)).trans (show shp 12 = (3, 0) from rfl))) (by decide) (by decide) (by decide) (r3_law _ (List.mem_of_getElem? (i := 17) rfl)) (hB.get rfl (fun h => by
      rcases h with h | h | h
      · have := hg _ _ h
        omega
      · omega
      · omega) (by omega)) ?_
    refine r_iload_n (y := m3_init) dX3_init_131 rfl rfl ?_
    refine r_newk (y := m3_init) (ci := 2) (k := 235 + 3 * n) hB.1 dX3_init_132 (by decide) cl_X3_31 (by decide +kernel) (by decide +kernel) ?_
    have hB1 := hB.obj (kd := 2) (zz := 8) (sh_lv hlt).1
    have hB2 : Bld (235 + 3 * n + 1) (fun a j => (g a j ∨ (a = 12 ∧ j = 6) ∨ (a = 29 ∧ n ≤ j)) ∨ a = 235 + 3 * n) (c + 1) (z + 8) (mNew m 2 0 (clsOf 2).2.2) := hB1
    refine r_dup_r (y := m3_init) dX3_init_135 ?_
    refine r_callIN (y := m3_init) (As := []) (b := 235 + 3 * n) dX3_init_136 rfl k2_init lm_X3_68 rfl ⟨by decide, by decide⟩ (Nat.le_of_ble_eq_true rfl) (C.mono (c0_X2 hlt rfl hB2) ?_)
    rintro _ m2 ⟨rfl, hB3⟩
    refine ⟨none, rfl, ?_⟩
    refine r_aast (y := m3_init) (kd := 16) (n := 102) dX3_init_139 ((hB3.kd (by omega)).trans rfl) (by decide) (by decide) ((congrArg Prod.fst ((hB3.kd (by omega)).trans (sh_lv hlt).1)).trans rfl) (nn_in (by omega) hlt) ?_
    rw [nn_tn (by omega)]
    refine r_iinc (y := m3_init) (v := nn (n + 1)) (L' := [some (.ref 12), some (.ref 7), some (.int (nn (n + 1)))]) dX3_init_140 rfl (by first | rfl | exact (nn_one n).symm | exact nn_one n) rfl ?_
    refine r_goto (y := m3_init) (tgt := 121) dX3_init_143 (by decide) ?_
    refine l2_X3 hg q (n + 1) (by omega) ((hB3.putR (a := 29) (j := n) (b := 235 + 3 * n) (if_pos hlt)).close (by omega) rfl rfl (fun a j h => ?_)) (fun m' h => hK m' (h.close rfl (by omega) (by omega) (fun _ _ w => Or.inl w)))
    rcases h with ⟨h1 | h1 | h1, h2⟩
    · exact Or.inl (Or.inl h1)
    · exact Or.inl (Or.inr (Or.inl h1))
    · refine Or.inl (Or.inr (Or.inr ⟨h1.1, ?_⟩))
      have : j ≠ n := fun e => h2 ⟨h1.1, e⟩
      omega

set_option maxHeartbeats 4000000 in
set_option maxRecDepth 100000 in
theorem l_X8 {g : Nat → Nat → Prop} {K : Option Value ⊕ String → Mm → Prop} (hg : ∀ a j, g a j → a < 541) : ∀ (q n : Nat), n + q = 10 → ∀ {c z : Nat} {m : Mm}, Bld (548 + 12 * n) (fun a j => g a j ∨ (a = 542 ∧ n ≤ j)) c z m → (∀ m', Bld (548 + 12 * 10) (fun a j => g a j ∨ (a = 542 ∧ 10 ≤ j)) (c + 12 * q) (z + 414 * q) m' → V m8_init 109 [some (.ref 541), some (.ref 12), some (.int (nn 10))] [] m' K) → V m8_init 84 [some (.ref 541), some (.ref 12), some (.int (nn n))] [] m K
  | 0, n, hn, c, z, m, hB, hK => by
    have e : n = 10 := by omega
    subst e
    refine r_iload_n (y := m8_init) dX8_init_84 rfl rfl ?_
    refine r_bipush (y := m8_init) (v := 10) dX8_init_85 (by decide) ?_
    refine r_icmp_ge (y := m8_init) (tgt := 109) dX8_init_87 (by decide) (fun hc => ?_) (fun hc => ?_)
    · exact hK m hB
    · exact (hc (by decide)).elim
  | q + 1, n, hn, c, z, m, hB, hK => by
    have hlt : n < 10 := by omega
    refine r_iload_n (y := m8_init) dX8_init_84 rfl rfl ?_
    refine r_bipush (y := m8_init) (v := 10) dX8_init_85 (by decide) ?_
    refine r_icmp_ge (y := m8_init) (tgt := 109) dX8_init_87 (by decide) (fun hc => ?_) (fun hc => ?_)
    · exact absurd ((nn_le (a := 10) (b := n) (by decide) (by omega)).mp hc) (by omega)
    refine r_aload_n (y := m8_init) dX8_init_90 rfl rfl ?_
    refine r_getR (y := m8_init) (ci := 8) (j := 1) (r := some 542) dX8_init_91 (congrArg Prod.fst ((hB.kd (by omega)).trans (show shp 541 = (8, 0) from rfl))) (by decide) (by decide) (by decide) (r6_law _ (List.mem_of_getElem? (i := 4) rfl)) (hB.get rfl (fun h => by
      rcases h with h | h
      · have := hg _ _ h
        omega
      · omega) (by omega)) ?_
    refine r_iload_n (y := m8_init) dX8_init_94 rfl rfl ?_
    refine r_newk (y := m8_init) (ci := 1) (k := 548 + 12 * n) hB.1 dX8_init_95 (by decide) cl_X8_9 (by decide +kernel) (by decide +kernel) ?_
    have hB1 := hB.obj (kd := 1) (zz := 6) (sh_fo hlt (k := 0) (by decide))
    have hB2 : Bld (548 + 12 * n + 1) (fun a j => (g a j ∨ (a = 542 ∧ n ≤ j)) ∨ a = 548 + 12 * n) (c + 1) (z + 6) (mNew m 1 0 (clsOf 1).2.2) := hB1
    refine r_dup_r (y := m8_init) dX8_init_98 ?_
    refine r_callIN (y := m8_init) (As := []) (b := 548 + 12 * n) dX8_init_99 rfl k1_init lm_X8_50 rfl ⟨by decide, by decide⟩ (Nat.le_of_ble_eq_true rfl) (C.mono (c0_X1 hlt rfl hB2) ?_)
    rintro _ m2 ⟨rfl, hB3⟩
    refine ⟨none, rfl, ?_⟩
    refine r_aast (y := m8_init) (kd := 15) (n := 10) dX8_init_102 ((hB3.kd (by omega)).trans rfl) (by decide) (by decide) ((congrArg Prod.fst ((hB3.kd (by omega)).trans (sh_fo hlt (k := 0) (by decide)))).trans rfl) (nn_in (by omega) hlt) ?_
    rw [nn_tn (by omega)]
    refine r_iinc (y := m8_init) (v := nn (n + 1)) (L' := [some (.ref 541), some (.ref 12), some (.int (nn (n + 1)))]) dX8_init_103 rfl (by first | rfl | exact (nn_one n).symm | exact nn_one n) rfl ?_
    refine r_goto (y := m8_init) (tgt := 84) dX8_init_106 (by decide) ?_
    refine l_X8 hg q (n + 1) (by omega) ((hB3.putR (a := 542) (j := n) (b := 548 + 12 * n) (if_pos hlt)).close (by omega) rfl rfl (fun a j h => ?_)) (fun m' h => hK m' (h.close rfl (by omega) (by omega) (fun _ _ w => Or.inl w)))
    rcases h with ⟨h1 | h1, h2⟩
    · exact Or.inl (Or.inl h1)
    · refine Or.inl (Or.inr ⟨h1.1, ?_⟩)
      have : j ≠ n := fun e => h2 ⟨h1.1, e⟩
      omega

set_option maxHeartbeats 4000000 in
set_option maxRecDepth 100000 in
theorem i_X3 {g : Nat → Nat → Prop} {c z : Nat} {m : Mm} {K : Option Value ⊕ String → Mm → Prop} (hg : ∀ a j, g a j → a < 12) (hB : Bld 13 (fun a j => g a j ∨ a = 12) c z m) (hK : ∀ m', Bld 541 g (c + 528) (z + 61728) m' → K (.inl none) m') : V m3_init 0 [some (.ref 12), some (.ref 7), none] [] m K := by
  refine r_aload_n (y := m3_init) dX3_init_0 rfl rfl ?_
  refine r_objInit (y := m3_init) dX3_init_1 oi_X3 oi_inst oi_code (by decide) (Nat.le_of_ble_eq_true rfl) ?_
  refine r_aload_n (y := m3_init) dX3_init_4 rfl rfl ?_
  refine r_newk (y := m3_init) (ci := 10) (k := 13) hB.1 dX3_init_5 (by decide) cl_X3_9 (by decide +kernel) (by decide +kernel) ?_
  replace hB := hB.obj (kd := 10) (zz := 11) rfl
  change V _ _ _ _ (mNew m 10 0 11) _
  generalize mNew m 10 0 11 = m at hB ⊢
  refine r_dup_r (y := m3_init) dX3_init_8 ?_
  refine r_callIN (y := m3_init) (As := []) (b := 13) dX3_init_9 rfl k10_init lm_X3_11 rfl ⟨by decide, by decide⟩ (Nat.le_of_ble_eq_true rfl) (C.mono (c_X10 hB) ?_)
  rintro _ m ⟨rfl, hB⟩
  refine ⟨none, rfl, ?_⟩
  refine r_putRF (y := m3_init) (ci := 3) (j := 1) (ty := (.object "Choicepoint$Things")) dX3_init_12 (congrArg Prod.fst ((hB.kd (by omega)).trans (show shp 12 = (3, 0) from rfl))) (by decide) (by decide) (by decide) (r3_law _ (List.mem_of_getElem? (i := 9) rfl)) rfl rfl rfl (by decide +kernel) (fun _ => ⟨rfl, rfl⟩) ?_
  replace hB := hB.putR (a := 12) (j := 1) (b := 13) rfl
  generalize mSetR m 12 1 (some 13) = m at hB ⊢
  refine r_aload_n (y := m3_init) dX3_init_15 rfl rfl ?_
  refine r_newk (y := m3_init) (ci := 9) (k := 23) hB.1 dX3_init_16 (by decide) cl_X3_18 (by decide +kernel) (by decide +kernel) ?_
  replace hB := hB.obj (kd := 9) (zz := 5) rfl
  change V _ _ _ _ (mNew m 9 0 5) _
  generalize mNew m 9 0 5 = m at hB ⊢
  refine r_dup_r (y := m3_init) dX3_init_19 ?_
  refine r_callIN (y := m3_init) (As := []) (b := 23) dX3_init_20 rfl k9_init lm_X3_20 rfl ⟨by decide, by decide⟩ (Nat.le_of_ble_eq_true rfl) (C.mono (c_X9 hB) ?_)
  rintro _ m ⟨rfl, hB⟩
  refine ⟨none, rfl, ?_⟩
  refine r_putRF (y := m3_init) (ci := 3) (j := 2) (ty := (.object "Choicepoint$Tasks")) dX3_init_23 (congrArg Prod.fst ((hB.kd (by omega)).trans (show shp 12 = (3, 0) from rfl))) (by decide) (by decide) (by decide) (r3_law _ (List.mem_of_getElem? (i := 13) rfl)) rfl rfl rfl (by decide +kernel) (fun _ => ⟨rfl, rfl⟩) ?_
  replace hB := hB.putR (a := 12) (j := 2) (b := 23) rfl
  generalize mSetR m 12 2 (some 23) = m at hB ⊢
  refine r_aload_n (y := m3_init) dX3_init_26 rfl rfl ?_
  refine r_bipush (y := m3_init) (v := 102) dX3_init_27 (by decide) ?_
  refine r_newRk (y := m3_init) (kd := 18) (k := 28) (N := 102) hB.1 dX3_init_29 (by decide) (by decide) cl_X3_25 (by decide) (by decide) (by decide) ?_
  replace hB := hB.rar (kd := 18) (len := 102) rfl
  generalize mNew m 18 102 102 = m at hB ⊢
  refine r_putRF (y := m3_init) (ci := 3) (j := 3) (ty := (.array (.object "Choicepoint$Scope"))) dX3_init_32 (congrArg Prod.fst ((hB.kd (by omega)).trans (show shp 12 = (3, 0) from rfl))) (by decide) (by decide) (by decide) (r3_law _ (List.mem_of_getElem? (i := 15) rfl)) rfl rfl rfl (by decide +kernel) (fun _ => ⟨rfl, rfl⟩) ?_
  replace hB := hB.putR (a := 12) (j := 3) (b := 28) rfl
  generalize mSetR m 12 3 (some 28) = m at hB ⊢
  refine r_aload_n (y := m3_init) dX3_init_35 rfl rfl ?_
  refine r_bipush (y := m3_init) (v := 102) dX3_init_36 (by decide) ?_
  refine r_newRk (y := m3_init) (kd := 16) (k := 29) (N := 102) hB.1 dX3_init_38 (by decide) (by decide) cl_X3_31 (by decide) (by decide) (by decide) ?_
  replace hB := hB.rar (kd := 16) (len := 102) rfl
  generalize mNew m 16 102 102 = m at hB ⊢
  refine r_putRF (y := m3_init) (ci := 3) (j := 4) (ty := (.array (.object "Choicepoint$Level"))) dX3_init_41 (congrArg Prod.fst ((hB.kd (by omega)).trans (show shp 12 = (3, 0) from rfl))) (by decide) (by decide) (by decide) (r3_law _ (List.mem_of_getElem? (i := 17) rfl)) rfl rfl rfl (by decide +kernel) (fun _ => ⟨rfl, rfl⟩) ?_
  replace hB := hB.putR (a := 12) (j := 4) (b := 29) rfl
  generalize mSetR m 12 4 (some 29) = m at hB ⊢
  refine r_aload_n (y := m3_init) dX3_init_44 rfl rfl ?_
  refine r_bipush (y := m3_init) (v := 12) dX3_init_45 (by decide) ?_
  refine r_newIk (y := m3_init) (k := 30) (N := 12) hB.1 dX3_init_47 ac_int (by decide) (by decide) (by decide) ?_
  replace hB := hB.arr (kd := 13) (len := 12) rfl (fun _ => rfl)
  generalize mNew m 13 12 12 = m at hB ⊢
  refine r_putRF (y := m3_init) (ci := 3) (j := 5) (ty := (.array .int)) dX3_init_49 (congrArg Prod.fst ((hB.kd (by omega)).trans (show shp 12 = (3, 0) from rfl))) (by decide) (by decide) (by decide) (r3_law _ (List.mem_of_getElem? (i := 18) rfl)) rfl rfl rfl (by decide +kernel) (fun _ => ⟨rfl, rfl⟩) ?_
  replace hB := hB.putR (a := 12) (j := 5) (b := 30) rfl
  generalize mSetR m 12 5 (some 30) = m at hB ⊢
  refine r_aload_n (y := m3_init) dX3_init_52 rfl rfl ?_
  refine r_iconst (y := m3_init) (v := 0) dX3_init_53 (by decide) ?_
  refine r_putI (y := m3_init) (ci := 3) (j := 7) (ty := .int) dX3_init_54 (congrArg Prod.fst ((hB.kd (by omega)).trans (show shp 12 = (3, 0) from rfl))) (by decide) (by decide) (by decide) (r3_law _ (List.mem_of_getElem? (i := 19) rfl)) rfl (by decide +kernel) rfl rfl ?_
  replace hB := hB.putI (a := 12) (j := 7) (v := 0) (Or.inr rfl)
  generalize mSetI m 12 7 0 = m at hB ⊢
  refine r_aload_n (y := m3_init) dX3_init_57 rfl rfl ?_
  refine r_iconst (y := m3_init) (v := 0) dX3_init_58 (by decide) ?_
  refine r_putI (y := m3_init) (ci := 3) (j := 8) (ty := .int) dX3_init_59 (congrArg Prod.fst ((hB.kd (by omega)).trans (show shp 12 = (3, 0) from rfl))) (by decide) (by decide) (by decide) (r3_law _ (List.mem_of_getElem? (i := 20) rfl)) rfl (by decide +kernel) rfl rfl ?_
  replace hB := hB.putI (a := 12) (j := 8) (v := 0) (Or.inr rfl)
  generalize mSetI m 12 8 0 = m at hB ⊢
  refine r_aload_n (y := m3_init) dX3_init_62 rfl rfl ?_
  refine r_iconst (y := m3_init) (v := 0) dX3_init_63 (by decide) ?_
  refine r_putI (y := m3_init) (ci := 3) (j := 9) (ty := .int) dX3_init_64 (congrArg Prod.fst ((hB.kd (by omega)).trans (show shp 12 = (3, 0) from rfl))) (by decide) (by decide) (by decide) (r3_law _ (List.mem_of_getElem? (i := 21) rfl)) rfl (by decide +kernel) rfl rfl ?_
  replace hB := hB.putI (a := 12) (j := 9) (v := 0) (Or.inr rfl)
  generalize mSetI m 12 9 0 = m at hB ⊢
  refine r_aload_n (y := m3_init) dX3_init_67 rfl rfl ?_
  refine r_iconst (y := m3_init) (v := 0) dX3_init_68 (by decide) ?_
  refine r_putI (y := m3_init) (ci := 3) (j := 10) (ty := .int) dX3_init_69 (congrArg Prod.fst ((hB.kd (by omega)).trans (show shp 12 = (3, 0) from rfl))) (by decide) (by decide) (by decide) (r3_law _ (List.mem_of_getElem? (i := 22) rfl)) rfl (by decide +kernel) rfl rfl ?_
  replace hB := hB.putI (a := 12) (j := 10) (v := 0) (Or.inr rfl)
  generalize mSetI m 12 10 0 = m at hB ⊢
  refine r_aload_n (y := m3_init) dX3_init_72 rfl rfl ?_
  refine r_iconst (y := m3_init) (v := 0) dX3_init_73 (by decide) ?_
  refine r_putI (y := m3_init) (ci := 3) (j := 11) (ty := .int) dX3_init_74 (congrArg Prod.fst ((hB.kd (by omega)).trans (show shp 12 = (3, 0) from rfl))) (by decide) (by decide) (by decide) (r3_law _ (List.mem_of_getElem? (i := 23) rfl)) rfl (by decide +kernel) rfl rfl ?_
  replace hB := hB.putI (a := 12) (j := 11) (v := 0) (Or.inr rfl)
  generalize mSetI m 12 11 0 = m at hB ⊢
  refine r_aload_n (y := m3_init) dX3_init_77 rfl rfl ?_
  refine r_iconst (y := m3_init) (v := 5) dX3_init_78 (by decide) ?_
  refine r_putI (y := m3_init) (ci := 3) (j := 12) (ty := .int) dX3_init_79 (congrArg Prod.fst ((hB.kd (by omega)).trans (show shp 12 = (3, 0) from rfl))) (by decide) (by decide) (by decide) (r4_law _ (List.mem_of_getElem? (i := 0) rfl)) rfl (by decide +kernel) rfl rfl ?_
  replace hB := hB.putI (a := 12) (j := 12) (v := 5) (Or.inl rfl)
  generalize mSetI m 12 12 5 = m at hB ⊢
  refine r_aload_n (y := m3_init) dX3_init_82 rfl rfl ?_
  refine r_iconst (y := m3_init) (v := 0) dX3_init_83 (by decide) ?_
  refine r_putI (y := m3_init) (ci := 3) (j := 13) (ty := .int) dX3_init_84 (congrArg Prod.fst ((hB.kd (by omega)).trans (show shp 12 = (3, 0) from rfl))) (by decide) (by decide) (by decide) (r4_law _ (List.mem_of_getElem? (i := 1) rfl)) rfl (by decide +kernel) rfl rfl ?_
  replace hB := hB.putI (a := 12) (j := 13) (v := 0) (Or.inr rfl)
  generalize mSetI m 12 13 0 = m at hB ⊢
  refine r_aload_n (y := m3_init) dX3_init_87 rfl rfl ?_
  refine r_aload_n (y := m3_init) dX3_init_88 rfl rfl ?_
  refine r_putRF (y := m3_init) (ci := 3) (j := 0) (ty := (.object "Choicepoint$Program")) dX3_init_89 (congrArg Prod.fst ((hB.kd (by omega)).trans (show shp 12 = (3, 0) from rfl))) (by decide) (by decide) (by decide) (r4_law _ (List.mem_of_getElem? (i := 2) rfl)) rfl rfl rfl (by decide +kernel) (fun _ => ⟨rfl, rfl⟩) ?_
  replace hB := hB.putR (a := 12) (j := 0) (b := 7) rfl
  generalize mSetR m 12 0 (some 7) = m at hB ⊢
  refine r_iconst (y := m3_init) (v := 0) dX3_init_92 (by decide) ?_
  refine r_istore_n (y := m3_init) (L' := [some (.ref 12), some (.ref 7), some (.int (nn 0))]) dX3_init_93 rfl (Nat.le_of_ble_eq_true rfl) rfl ?_
  refine l1_X3 hg 102 0 rfl (hB.close rfl rfl rfl (fun a j h => ?_)) (fun m hB => ?_)
  · by_cases e : a = 12
    · subst e
      rcases j with _ | _ | _ | _ | _ | _ | _ | j
      all_goals first | exact Or.inr rfl | (exfalso; simp at h; done) | exact Or.inl (Or.inr (Or.inl ⟨rfl, rfl⟩))
    · simp [e] at h ⊢
      rcases h with (h | h) | h
      · exact Or.inl (Or.inl h)
      · exact Or.inl (Or.inr (Or.inl h))
      · exact Or.inl (Or.inr (Or.inr h))
  refine r_iconst (y := m3_init) (v := 0) dX3_init_119 (by decide) ?_
  refine r_istore_n (y := m3_init) (L' := [some (.ref 12), some (.ref 7), some (.int (nn 0))]) dX3_init_120 rfl (Nat.le_of_ble_eq_true rfl) rfl ?_
  refine l2_X3 hg 102 0 rfl (hB.close rfl rfl rfl (fun a j h => ?_)) (fun m hB => ?_)
  · rcases h with h | h | h | h
    · exact Or.inl (Or.inl h)
    · exact Or.inl (Or.inr (Or.inl h))
    · refine Or.inr ?_
      rw [h.1]
      show (if j < 102 then some (31 + 2 * j) else none) = none
      exact if_neg (by omega)
    · exact Or.inl (Or.inr (Or.inr ⟨h, Nat.zero_le _⟩))
  refine r_aload_n (y := m3_init) dX3_init_146 rfl rfl ?_
  refine r_aload_n (y := m3_init) dX3_init_147 rfl rfl ?_
  refine r_getR (y := m3_init) (ci := 3) (j := 4) (r := some 29) dX3_init_148 (congrArg Prod.fst ((hB.kd (by omega)).trans (show shp 12 = (3, 0) from rfl))) (by decide) (by decide) (by decide) (r3_law _ (List.mem_of_getElem? (i := 17) rfl)) (hB.get rfl (fun h => by
      rcases h with h | h | h
      · have := hg _ _ h
        omega
      · omega
      · omega) (by omega)) ?_
  refine r_iconst (y := m3_init) (v := 0) dX3_init_151 (by decide) ?_
  refine r_aald (y := m3_init) (n := 102) (r := some 235) dX3_init_152 ((hB.kd (by omega)).trans (show shp 29 = (16, 102) from rfl)) (by decide) (by decide) (nn_in (a := 0) (by decide) (by decide)) (hB.get rfl (fun h => by
      rcases h with h | h | h
      · have := hg _ _ h
        omega
      · omega
      · exact absurd h.2 (by decide)) (by omega)) ?_
  refine r_putRF (y := m3_init) (ci := 3) (j := 6) (ty := (.object "Choicepoint$Level")) dX3_init_153 (congrArg Prod.fst ((hB.kd (by omega)).trans (show shp 12 = (3, 0) from rfl))) (by decide) (by decide) (by decide) (r4_law _ (List.mem_of_getElem? (i := 7) rfl)) rfl rfl rfl (by decide +kernel) (fun _ => ⟨rfl, rfl⟩) ?_
  refine r_ret (y := m3_init) dX3_init_156 rfl (hK _ ((hB.putR (a := 12) (j := 6) (b := 235) rfl).close rfl (by omega) (by omega) (fun a j h => ?_)))
  rcases h with ⟨h | h | h, h2⟩
  · exact Or.inl h
  · exact (h2 h).elim
  · refine Or.inr ?_
    rw [h.1]
    show (if j < 102 then some (235 + 3 * j) else none) = none
    exact if_neg (by omega)
theorem c_X3 {g : Nat → Nat → Prop} {c z : Nat} {m : Mm} (hg : ∀ a j, g a j → a < 12) (hB : Bld 13 (fun a j => g a j ∨ a = 12) c z m) : C m3_init [.ref 12, .ref 7] m (fun o m' => o = .inl none ∧ Bld 541 g (c + 528) (z + 61728) m') :=
  C.of (L := [some (.ref 12), some (.ref 7), none]) (by decide +kernel) (by decide) rfl (i_X3 hg hB (fun _ h => ⟨rfl, h⟩))
set_option maxHeartbeats 4000000 in
set_option maxRecDepth 100000 in
theorem i_X8 {g : Nat → Nat → Prop} {c z : Nat} {m : Mm} {K : Option Value ⊕ String → Mm → Prop} (hg : ∀ a j, g a j → a < 541) (hB : Bld 542 (fun a j => g a j ∨ a = 541) c z m) (hK : ∀ m', Bld 668 g (c + 126) (z + 23360) m' → K (.inl none) m') : V m8_init 0 [some (.ref 541), some (.ref 12), none] [] m K := by
  refine r_aload_n (y := m8_init) dX8_init_0 rfl rfl ?_
  refine r_objInit (y := m8_init) dX8_init_1 oi_X8 oi_inst oi_code (by decide) (Nat.le_of_ble_eq_true rfl) ?_
  refine r_aload_n (y := m8_init) dX8_init_4 rfl rfl ?_
  refine r_bipush (y := m8_init) (v := 10) dX8_init_5 (by decide) ?_
  refine r_newRk (y := m8_init) (kd := 15) (k := 542) (N := 10) hB.1 dX8_init_7 (by decide) (by decide) cl_X8_9 (by decide) (by decide) (by decide) ?_
  replace hB := hB.rar (kd := 15) (len := 10) rfl
  generalize mNew m 15 10 10 = m at hB ⊢
  refine r_putRF (y := m8_init) (ci := 8) (j := 1) (ty := (.array (.object "Choicepoint$Found"))) dX8_init_10 (congrArg Prod.fst ((hB.kd (by omega)).trans (show shp 541 = (8, 0) from rfl))) (by decide) (by decide) (by decide) (r6_law _ (List.mem_of_getElem? (i := 4) rfl)) rfl rfl rfl (by decide +kernel) (fun _ => ⟨rfl, rfl⟩) ?_
  replace hB := hB.putR (a := 541) (j := 1) (b := 542) rfl
  generalize mSetR m 541 1 (some 542) = m at hB ⊢
  refine r_aload_n (y := m8_init) dX8_init_13 rfl rfl ?_
  refine r_bipush (y := m8_init) (v := 6) dX8_init_14 (by decide) ?_
  refine r_newIk (y := m8_init) (k := 543) (N := 6) hB.1 dX8_init_16 ac_int (by decide) (by decide) (by decide) ?_
  replace hB := hB.arr (kd := 13) (len := 6) rfl (fun _ => rfl)
  generalize mNew m 13 6 6 = m at hB ⊢
  refine r_putRF (y := m8_init) (ci := 8) (j := 2) (ty := (.array .int)) dX8_init_18 (congrArg Prod.fst ((hB.kd (by omega)).trans (show shp 541 = (8, 0) from rfl))) (by decide) (by decide) (by decide) (r6_law _ (List.mem_of_getElem? (i := 5) rfl)) rfl rfl rfl (by decide +kernel) (fun _ => ⟨rfl, rfl⟩) ?_
  replace hB := hB.putR (a := 541) (j := 2) (b := 543) rfl
  generalize mSetR m 541 2 (some 543) = m at hB ⊢
  refine r_aload_n (y := m8_init) dX8_init_21 rfl rfl ?_
  refine r_sipush (y := m8_init) (v := 4801) dX8_init_22 (by decide) ?_
  refine r_newIk (y := m8_init) (k := 544) (N := 4801) hB.1 dX8_init_25 ac_int (by decide) (by decide) (by decide) ?_
  replace hB := hB.arr (kd := 13) (len := 4801) rfl (fun _ => rfl)
  generalize mNew m 13 4801 4801 = m at hB ⊢
  refine r_putRF (y := m8_init) (ci := 8) (j := 3) (ty := (.array .int)) dX8_init_27 (congrArg Prod.fst ((hB.kd (by omega)).trans (show shp 541 = (8, 0) from rfl))) (by decide) (by decide) (by decide) (r6_law _ (List.mem_of_getElem? (i := 6) rfl)) rfl rfl rfl (by decide +kernel) (fun _ => ⟨rfl, rfl⟩) ?_
  replace hB := hB.putR (a := 541) (j := 3) (b := 544) rfl
  generalize mSetR m 541 3 (some 544) = m at hB ⊢
  refine r_aload_n (y := m8_init) dX8_init_30 rfl rfl ?_
  refine r_sipush (y := m8_init) (v := 4801) dX8_init_31 (by decide) ?_
  refine r_newIk (y := m8_init) (k := 545) (N := 4801) hB.1 dX8_init_34 ac_int (by decide) (by decide) (by decide) ?_
  replace hB := hB.arr (kd := 13) (len := 4801) rfl (fun _ => rfl)
  generalize mNew m 13 4801 4801 = m at hB ⊢
  refine r_putRF (y := m8_init) (ci := 8) (j := 4) (ty := (.array .int)) dX8_init_36 (congrArg Prod.fst ((hB.kd (by omega)).trans (show shp 541 = (8, 0) from rfl))) (by decide) (by decide) (by decide) (r6_law _ (List.mem_of_getElem? (i := 7) rfl)) rfl rfl rfl (by decide +kernel) (fun _ => ⟨rfl, rfl⟩) ?_
  replace hB := hB.putR (a := 541) (j := 4) (b := 545) rfl
  generalize mSetR m 541 4 (some 545) = m at hB ⊢
  refine r_aload_n (y := m8_init) dX8_init_39 rfl rfl ?_
  refine r_sipush (y := m8_init) (v := 4801) dX8_init_40 (by decide) ?_
  refine r_newIk (y := m8_init) (k := 546) (N := 4801) hB.1 dX8_init_43 ac_int (by decide) (by decide) (by decide) ?_
  replace hB := hB.arr (kd := 13) (len := 4801) rfl (fun _ => rfl)
  generalize mNew m 13 4801 4801 = m at hB ⊢
  refine r_putRF (y := m8_init) (ci := 8) (j := 5) (ty := (.array .int)) dX8_init_45 (congrArg Prod.fst ((hB.kd (by omega)).trans (show shp 541 = (8, 0) from rfl))) (by decide) (by decide) (by decide) (r6_law _ (List.mem_of_getElem? (i := 8) rfl)) rfl rfl rfl (by decide +kernel) (fun _ => ⟨rfl, rfl⟩) ?_
  replace hB := hB.putR (a := 541) (j := 5) (b := 546) rfl
  generalize mSetR m 541 5 (some 546) = m at hB ⊢
  refine r_aload_n (y := m8_init) dX8_init_48 rfl rfl ?_
  refine r_iconst (y := m8_init) (v := 0) dX8_init_49 (by decide) ?_
  refine r_putI (y := m8_init) (ci := 8) (j := 6) (ty := .int) dX8_init_50 (congrArg Prod.fst ((hB.kd (by omega)).trans (show shp 541 = (8, 0) from rfl))) (by decide) (by decide) (by decide) (r6_law _ (List.mem_of_getElem? (i := 9) rfl)) rfl (by decide +kernel) rfl rfl ?_
  replace hB := hB.putI (a := 541) (j := 6) (v := 0) (Or.inr rfl)
  generalize mSetI m 541 6 0 = m at hB ⊢
  refine r_aload_n (y := m8_init) dX8_init_53 rfl rfl ?_
  refine r_sipush (y := m8_init) (v := 4801) dX8_init_54 (by decide) ?_
  refine r_newIk (y := m8_init) (k := 547) (N := 4801) hB.1 dX8_init_57 ac_int (by decide) (by decide) (by decide) ?_
  replace hB := hB.arr (kd := 13) (len := 4801) rfl (fun _ => rfl)
  generalize mNew m 13 4801 4801 = m at hB ⊢
  refine r_putRF (y := m8_init) (ci := 8) (j := 7) (ty := (.array .int)) dX8_init_59 (congrArg Prod.fst ((hB.kd (by omega)).trans (show shp 541 = (8, 0) from rfl))) (by decide) (by decide) (by decide) (r6_law _ (List.mem_of_getElem? (i := 10) rfl)) rfl rfl rfl (by decide +kernel) (fun _ => ⟨rfl, rfl⟩) ?_
  replace hB := hB.putR (a := 541) (j := 7) (b := 547) rfl
  generalize mSetR m 541 7 (some 547) = m at hB ⊢
  refine r_aload_n (y := m8_init) dX8_init_62 rfl rfl ?_
  refine r_iconst (y := m8_init) (v := 0) dX8_init_63 (by decide) ?_
  refine r_putI (y := m8_init) (ci := 8) (j := 8) (ty := .int) dX8_init_64 (congrArg Prod.fst ((hB.kd (by omega)).trans (show shp 541 = (8, 0) from rfl))) (by decide) (by decide) (by decide) (r6_law _ (List.mem_of_getElem? (i := 11) rfl)) rfl (by decide +kernel) rfl rfl ?_
  replace hB := hB.putI (a := 541) (j := 8) (v := 0) (Or.inr rfl)
  generalize mSetI m 541 8 0 = m at hB ⊢
  refine r_aload_n (y := m8_init) dX8_init_67 rfl rfl ?_
  refine r_iconst (y := m8_init) (v := 0) dX8_init_68 (by decide) ?_
  refine r_putI (y := m8_init) (ci := 8) (j := 9) (ty := .int) dX8_init_69 (congrArg Prod.fst ((hB.kd (by omega)).trans (show shp 541 = (8, 0) from rfl))) (by decide) (by decide) (by decide) (r6_law _ (List.mem_of_getElem? (i := 12) rfl)) rfl (by decide +kernel) rfl rfl ?_
  replace hB := hB.putI (a := 541) (j := 9) (v := 0) (Or.inr rfl)
  generalize mSetI m 541 9 0 = m at hB ⊢
  refine r_aload_n (y := m8_init) dX8_init_72 rfl rfl ?_
  refine r_iconst (y := m8_init) (v := 0) dX8_init_73 (by decide) ?_
  refine r_putI (y := m8_init) (ci := 8) (j := 10) (ty := .int) dX8_init_74 (congrArg Prod.fst ((hB.kd (by omega)).trans (show shp 541 = (8, 0) from rfl))) (by decide) (by decide) (by decide) (r6_law _ (List.mem_of_getElem? (i := 13) rfl)) rfl (by decide +kernel) rfl rfl ?_
  replace hB := hB.putI (a := 541) (j := 10) (v := 0) (Or.inr rfl)
  generalize mSetI m 541 10 0 = m at hB ⊢
  refine r_aload_n (y := m8_init) dX8_init_77 rfl rfl ?_
  refine r_aload_n (y := m8_init) dX8_init_78 rfl rfl ?_
  refine r_putRF (y := m8_init) (ci := 8) (j := 0) (ty := (.object "Choicepoint$Machine")) dX8_init_79 (congrArg Prod.fst ((hB.kd (by omega)).trans (show shp 541 = (8, 0) from rfl))) (by decide) (by decide) (by decide) (r6_law _ (List.mem_of_getElem? (i := 14) rfl)) rfl rfl rfl (by decide +kernel) (fun _ => ⟨rfl, rfl⟩) ?_
  replace hB := hB.putR (a := 541) (j := 0) (b := 12) rfl
  generalize mSetR m 541 0 (some 12) = m at hB ⊢
  refine r_iconst (y := m8_init) (v := 0) dX8_init_82 (by decide) ?_
  refine r_istore_n (y := m8_init) (L' := [some (.ref 541), some (.ref 12), some (.int (nn 0))]) dX8_init_83 rfl (Nat.le_of_ble_eq_true rfl) rfl ?_
  refine l_X8 hg 10 0 rfl (hB.close rfl rfl rfl (fun a j h => ?_)) (fun m hB => ?_)
  · by_cases e : a = 541
    · subst e
      rcases j with _ | _ | _ | _ | _ | _ | _ | _ | j
      all_goals first | exact Or.inr rfl | (exfalso; simp at h; done)
    · simp [e] at h ⊢
      exact Or.inl h
  refine r_ret (y := m8_init) dX8_init_109 rfl (hK _ (hB.close rfl (by omega) (by omega) (fun a j h => ?_)))
  rcases h with h | h
  · exact Or.inl h
  · refine Or.inr ?_
    rw [h.1]
    show (if j < 10 then some (548 + 12 * j) else none) = none
    exact if_neg (by omega)
theorem c_X8 {g : Nat → Nat → Prop} {c z : Nat} {m : Mm} (hg : ∀ a j, g a j → a < 541) (hB : Bld 542 (fun a j => g a j ∨ a = 541) c z m) : C m8_init [.ref 541, .ref 12] m (fun o m' => o = .inl none ∧ Bld 668 g (c + 126) (z + 23360) m') :=
  C.of (L := [some (.ref 541), some (.ref 12), none]) (by decide +kernel) (by decide) rfl (i_X8 hg hB (fun _ h => ⟨rfl, h⟩))
set_option maxHeartbeats 4000000 in
set_option maxRecDepth 100000 in
theorem i_X11 {c z : Nat} {m : Mm} (hB : Bld 1 (fun a _ => a = 0) c z m) : V m11_init 0 [some (.ref 0)] [] m (fun o m' => o = .inl none ∧ Bld 668 (fun _ _ => False) (c + 667) (z + 85741) m') := by
  refine r_aload_n (y := m11_init) dX11_init_0 rfl rfl ?_
  refine r_objInit (y := m11_init) dX11_init_1 oi_X11 oi_inst oi_code (by decide) (Nat.le_of_ble_eq_true rfl) ?_
  refine r_aload_n (y := m11_init) dX11_init_4 rfl rfl ?_
  refine r_newk (y := m11_init) (ci := 4) (k := 1) hB.1 dX11_init_5 (by decide) cl_X11_9 (by decide +kernel) (by decide +kernel) ?_
  replace hB := hB.obj (kd := 4) (zz := 6) rfl
  change V _ _ _ _ (mNew m 4 0 6) _
  generalize mNew m 4 0 6 = m at hB ⊢
  refine r_dup_r (y := m11_init) dX11_init_8 ?_
  refine r_callIN (y := m11_init) (As := []) (b := 1) dX11_init_9 rfl k4_init lm_X11_11 rfl ⟨by decide, by decide⟩ (Nat.le_of_ble_eq_true rfl) (C.mono (c_X4 hB) ?_)
  rintro _ m ⟨rfl, hB⟩
  refine ⟨none, rfl, ?_⟩
  refine r_putRF (y := m11_init) (ci := 11) (j := 0) (ty := (.object "Choicepoint$Nodes")) dX11_init_12 (congrArg Prod.fst ((hB.kd (by omega)).trans (show shp 0 = (11, 0) from rfl))) (by decide) (by decide) (by decide) (r1_law _ (List.mem_of_getElem? (i := 16) rfl)) rfl rfl rfl (by decide +kernel) (fun _ => ⟨rfl, rfl⟩) ?_
  replace hB := hB.putR (a := 0) (j := 0) (b := 1) rfl
  generalize mSetR m 0 0 (some 1) = m at hB ⊢
  refine r_aload_n (y := m11_init) dX11_init_15 rfl rfl ?_
  refine r_newk (y := m11_init) (ci := 5) (k := 7) hB.1 dX11_init_16 (by decide) cl_X11_16 (by decide +kernel) (by decide +kernel) ?_
  replace hB := hB.obj (kd := 5) (zz := 6) rfl
  change V _ _ _ _ (mNew m 5 0 6) _
  generalize mNew m 5 0 6 = m at hB ⊢
  refine r_dup_r (y := m11_init) dX11_init_19 ?_
  refine r_callIN (y := m11_init) (As := []) (b := 7) dX11_init_20 rfl k5_init lm_X11_18 rfl ⟨by decide, by decide⟩ (Nat.le_of_ble_eq_true rfl) (C.mono (c_X5 hB) ?_)
  rintro _ m ⟨rfl, hB⟩
  refine ⟨none, rfl, ?_⟩
  refine r_putRF (y := m11_init) (ci := 11) (j := 1) (ty := (.object "Choicepoint$Program")) dX11_init_23 (congrArg Prod.fst ((hB.kd (by omega)).trans (show shp 0 = (11, 0) from rfl))) (by decide) (by decide) (by decide) (r1_law _ (List.mem_of_getElem? (i := 20) rfl)) rfl rfl rfl (by decide +kernel) (fun _ => ⟨rfl, rfl⟩) ?_
  replace hB := hB.putR (a := 0) (j := 1) (b := 7) rfl
  generalize mSetR m 0 1 (some 7) = m at hB ⊢
  refine r_aload_n (y := m11_init) dX11_init_26 rfl rfl ?_
  refine r_newk (y := m11_init) (ci := 3) (k := 12) hB.1 dX11_init_27 (by decide) cl_X11_23 (by decide +kernel) (by decide +kernel) ?_
  replace hB := hB.obj (kd := 3) (zz := 14) rfl
  change V _ _ _ _ (mNew m 3 0 14) _
  generalize mNew m 3 0 14 = m at hB ⊢
  refine r_dup_r (y := m11_init) dX11_init_30 ?_
  refine r_aload_n (y := m11_init) dX11_init_31 rfl rfl ?_
  refine r_getR (y := m11_init) (ci := 11) (j := 1) (r := some 7) dX11_init_32 (congrArg Prod.fst ((hB.kd (by omega)).trans (show shp 0 = (11, 0) from rfl))) (by decide) (by decide) (by decide) (r1_law _ (List.mem_of_getElem? (i := 20) rfl)) (hB.get rfl (fun h => by simp at h) (by omega)) ?_
  refine r_callIN (y := m11_init) (As := [.ref 7]) (b := 12) dX11_init_35 rfl k3_init lm_X11_25 rfl ⟨by decide, by decide⟩ (Nat.le_of_ble_eq_true rfl) (C.mono (c_X3 (fun a j h => by have := h.1.1; omega) hB) ?_)
  rintro _ m ⟨rfl, hB⟩
  refine ⟨none, rfl, ?_⟩
  refine r_putRF (y := m11_init) (ci := 11) (j := 2) (ty := (.object "Choicepoint$Machine")) dX11_init_38 (congrArg Prod.fst ((hB.kd (by omega)).trans (show shp 0 = (11, 0) from rfl))) (by decide) (by decide) (by decide) (r2_law _ (List.mem_of_getElem? (i := 0) rfl)) rfl rfl rfl (by decide +kernel) (fun _ => ⟨rfl, rfl⟩) ?_
  replace hB := hB.putR (a := 0) (j := 2) (b := 12) rfl
  generalize mSetR m 0 2 (some 12) = m at hB ⊢
  refine r_aload_n (y := m11_init) dX11_init_41 rfl rfl ?_
  refine r_newk (y := m11_init) (ci := 8) (k := 541) hB.1 dX11_init_42 (by decide) cl_X11_32 (by decide +kernel) (by decide +kernel) ?_
  replace hB := hB.obj (kd := 8) (zz := 11) rfl
  change V _ _ _ _ (mNew m 8 0 11) _
  generalize mNew m 8 0 11 = m at hB ⊢
  refine r_dup_r (y := m11_init) dX11_init_45 ?_
  refine r_aload_n (y := m11_init) dX11_init_46 rfl rfl ?_
  refine r_getR (y := m11_init) (ci := 11) (j := 2) (r := some 12) dX11_init_47 (congrArg Prod.fst ((hB.kd (by omega)).trans (show shp 0 = (11, 0) from rfl))) (by decide) (by decide) (by decide) (r2_law _ (List.mem_of_getElem? (i := 0) rfl)) (hB.get rfl (fun h => by simp at h) (by omega)) ?_
  refine r_callIN (y := m11_init) (As := [.ref 12]) (b := 541) dX11_init_50 rfl k8_init lm_X11_34 rfl ⟨by decide, by decide⟩ (Nat.le_of_ble_eq_true rfl) (C.mono (c_X8 (fun a j h => by have := h.1.1.1; omega) hB) ?_)
  rintro _ m ⟨rfl, hB⟩
  refine ⟨none, rfl, ?_⟩
  refine r_putRF (y := m11_init) (ci := 11) (j := 3) (ty := (.object "Choicepoint$Searches")) dX11_init_53 (congrArg Prod.fst ((hB.kd (by omega)).trans (show shp 0 = (11, 0) from rfl))) (by decide) (by decide) (by decide) (r2_law _ (List.mem_of_getElem? (i := 4) rfl)) rfl rfl rfl (by decide +kernel) (fun _ => ⟨rfl, rfl⟩) ?_
  replace hB := hB.putR (a := 0) (j := 3) (b := 541) rfl
  generalize mSetR m 0 3 (some 541) = m at hB ⊢
  refine r_aload_n (y := m11_init) dX11_init_56 rfl rfl ?_
  refine r_null (y := m11_init) dX11_init_57 ?_
  refine r_putRN0 (y := m11_init) (ci := 11) (j := 4) (ty := (.object "Choicepoint$Expression")) dX11_init_58 (congrArg Prod.fst ((hB.kd (by omega)).trans (show shp 0 = (11, 0) from rfl))) (by decide) (by decide) (by decide) (r2_law _ (List.mem_of_getElem? (i := 5) rfl)) rfl (by decide +kernel) ⟨rfl, rfl⟩ ?_
  replace hB := hB.putN (a := 0) (j := 4) rfl
  generalize mSetR m 0 4 none = m at hB ⊢
  refine r_ret (y := m11_init) dX11_init_61 rfl ⟨rfl, hB.close rfl (by omega) (by omega) (fun a j h => ?_)⟩
  rcases j with _ | _ | _ | _ | j
  all_goals first | (exfalso; simp at h; done) | (refine Or.inr ?_; rw [show a = 0 from h.1.1.1.1]; rfl)
theorem c_X11 {c z : Nat} {m : Mm} (hB : Bld 1 (fun a _ => a = 0) c z m) : C m11_init [.ref 0] m (fun o m' => o = .inl none ∧ Bld 668 (fun _ _ => False) (c + 667) (z + 85741) m') :=
  C.of (L := [some (.ref 0)]) (by decide +kernel) (by decide) rfl (i_X11 hB)
/-- behind both constructors -/
theorem Bld.st {c z : Nat} {m : Mm} (h : Bld 714 (fun _ _ => False) c z m) : St m := by
  refine ⟨h.2.2.2.1, fun a j b hs => ?_, Nat.le_of_eq h.1.symm⟩
  by_cases ha : a < 714
  · exact h.get hs (fun q => q) ha
  · exfalso
    unfold stR at hs
    rw [if_neg (by omega), if_neg (by omega), if_neg (by omega), if_neg (by omega), if_neg (by omega)] at hs
    have hz : ∀ (l : List ((Nat × Nat) × Nat)), (∀ q ∈ l, q.1.1 = 668) → l.lookup (a, j) = none := by
      intro l hl
      induction l with
      | nil => rfl
      | cons q l ih =>
        obtain ⟨⟨x, z⟩, w⟩ := q
        have hx : x = 668 := hl _ List.mem_cons_self
        have hb : ((a, j) == (x, z)) = false := by
          apply beq_eq_false_iff_ne.mpr
          intro q
          have := congrArg Prod.fst q
          simp only at this
          omega
        rw [List.lookup_cons, hb]
        exact ih (fun q hq => hl q (List.mem_cons_of_mem _ hq))
    rw [hz refM (by decide)] at hs
    cases hs
theorem Bld.zero {k c z a j : Nat} {g : Nat → Nat → Prop} {m : Mm} (h : Bld k g c z m) (ha : a < k) (hd : dirty a = false) : mI m a j = 0 := h.2.2.2.2.1 a ha hd j
theorem Bld.none {k c z a j : Nat} {m : Mm} (h : Bld k (fun _ _ => False) c z m) (ha : a < k) (hs : stR a j = none) : mR m a j = none := by
  rcases h.2.2.2.2.2 a ha j with q | q
  · exact q.trans hs
  · exact q.1.elim
