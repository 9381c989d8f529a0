/-! RULE'S CONSTRUCTOR -/
theorem ExpT.gr {nf : Nat} {fp : Nat → Nat} {m m' : Mm} {e : Nat} {t : Tr} (hw : twf nf fp t) (h : ExpT m e t) (g : Gr m m') : ExpT m' e t := by
  obtain ⟨h1, h2, h3, h4, h5⟩ := h
  refine ⟨h1, Nat.le_trans h2 g.1, ⟨?_, fun j j1 j2 => ?_⟩, ?_, h5.eq hw (fun k j k1 k2 _ _ => ?_)⟩
  · rw [(g.2 e (by omega)).1]
    exact h3.1
  · rw [(g.2 e (by omega)).2.2, (g.2 (e + j) (by omega)).1]
    exact h3.2 j j1 j2
  · rw [(g.2 e (by omega)).2.1]
    exact h4
  · rw [(g.2 (e + k) (by omega)).2.1]
/-- an expression, or none -/
def EO (m : Mm) (r : Option Nat) (t : Option Tr) : Prop := match t with
  | none => r = none
  | some t => ∃ e, r = some e ∧ ExpT m e t
theorem EO.gr {nf : Nat} {fp : Nat → Nat} {m m' : Mm} {r : Option Nat} {t : Option Tr} (hw : ∀ u, t = some u → twf nf fp u) (h : EO m r t) (g : Gr m m') : EO m' r t := by
  cases t with
  | none => exact h
  | some t =>
    obtain ⟨e, h1, h2⟩ := h
    exact ⟨e, h1, h2.gr (hw t rfl) g⟩
/-- all but cell r stays -/
def Ga (r : Nat) (m m' : Mm) : Prop := mN m' = mN m ∧ mC m' = mC m ∧ mZ m' = mZ m ∧ mS m' = mS m ∧ ∀ a, a ≠ r → mI m' a = mI m a ∧ mR m' a = mR m a
theorem Ga.st {r : Nat} {m m1 : Mm} (h : Ga r m m1) (hr : 714 ≤ r) (hm : St m) : St m1 := by
  obtain ⟨h1, h2, h3⟩ := hm
  refine ⟨fun a ha => ?_, fun a j b hs => ?_, ?_⟩
  · rw [h.2.2.2.1]
    exact h1 a ha
  · have ha : a ≠ r := fun q => by
      subst q
      have hz : ∀ (l : List ((Nat × Nat) × Nat)), (∀ q ∈ l, q.1.1 = 668) → l.lookup (a, j) = none := by
        intro l hl
        induction l with
        | nil => rfl
        | cons q l ih =>
          obtain ⟨⟨x, z⟩, w⟩ := q
          have hx : x = 668 := hl _ List.mem_cons_self
          have hb : ((a, j) == (x, z)) = false := by
            apply beq_eq_false_iff_ne.mpr
            intro q
            have := congrArg Prod.fst q
            simp only at this
            omega
          rw [List.lookup_cons, hb]
          exact ih (fun q hq => hl q (List.mem_cons_of_mem _ hq))
      unfold stR at hs
      rw [if_neg (by omega), if_neg (by omega), if_neg (by omega), if_neg (by omega), if_neg (by omega), hz refM (by decide)] at hs
      cases hs
    rw [(h.2.2.2.2 a ha).2]
    exact h2 a j b hs
  · rw [h.1]
    exact h3
theorem ExpT.ga {nf : Nat} {fp : Nat → Nat} {m m' : Mm} {r e : Nat} {t : Tr} (hw : twf nf fp t) (h : ExpT m e t) (g : Ga r m m') (hr : r < e) : ExpT m' e t := by
  obtain ⟨h1, h2, h3, h4, h5⟩ := h
  refine ⟨h1, by rw [g.1]; exact h2, ⟨?_, fun j j1 j2 => ?_⟩, ?_, h5.eq hw (fun k j k1 k2 _ _ => ?_)⟩
  · rw [g.2.2.2.1]
    exact h3.1
  · rw [(g.2.2.2.2 e (by omega)).2, g.2.2.2.1]
    exact h3.2 j j1 j2
  · rw [(g.2.2.2.2 e (by omega)).1]
    exact h4
  · rw [(g.2.2.2.2 (e + k) (by omega)).1]
def rset (R : Rl) : Option Nat := pno R.2.1 (pno R.1 (some 0))
def RulT (m : Mm) (r : Nat) (R : Rl) : Prop := 714 ≤ r ∧ r < mN m ∧ isRul m r ∧ EO m (mR m r 0) R.1 ∧ EO m (mR m r 1) R.2.1 ∧ EO m (mR m r 2) (some R.2.2) ∧ mI m r 3 = so (rset R)
/-- trees of a rule -/
def rwf (nf : Nat) (fp : Nat → Nat) (R : Rl) : Prop := (∀ u, R.1 = some u → twf nf fp u ∧ tsz u ≤ 12) ∧ (∀ u, R.2.1 = some u → twf nf fp u ∧ tsz u ≤ 12) ∧ twf nf fp R.2.2 ∧ tsz R.2.2 ≤ 12
theorem RulT.gr {nf : Nat} {fp : Nat → Nat} {m m' : Mm} {r : Nat} {R : Rl} (hw : rwf nf fp R) (h : RulT m r R) (g : Gr m m') : RulT m' r R := by
  obtain ⟨h1, h2, h3, h4, h5, h6, h7⟩ := h
  obtain ⟨g1, g2, g3⟩ := g.2 r h2
  refine ⟨h1, Nat.lt_of_lt_of_le h2 g.1, ?_, ?_, ?_, ?_, ?_⟩
  · unfold isRul
    rw [g1]
    exact h3
  · rw [g3]
    exact h4.gr (fun u hu => (hw.1 u hu).1) g
  · rw [g3]
    exact h5.gr (fun u hu => (hw.2.1 u hu).1) g
  · rw [g3]
    exact h6.gr (nf := nf) (fp := fp) (fun u hu => by cases hu; exact hw.2.2.1) g
  · rw [g2]
    exact h7
set_option maxHeartbeats 4000000 in
set_option maxRecDepth 100000 in
theorem s6_initNN {nf : Nat} {fp : Nat → Nat} {M0 : Mm} {r : Nat} {e3 : Nat} {t3 : Tr} (hnf : nf ≤ 8) (hm : St M0) (h714 : 714 ≤ r) (hrN : r < mN M0) (e0 : mS M0 r = (6, 0)) (x3 : ExpT M0 e3 t3) (w3 : twf nf fp t3) (r3 : r < e3) : C m6_init [.ref r, .null, .null, .ref e3] M0 (fun o m' => o = .inl none ∧ Ga r M0 m' ∧ RulT m' r (none, none, t3) ∧ mI m' r 4 = (if (rset (none, none, t3)).isSome = true then 1 else 0)) := by
  refine C.of (L := [some (.ref r), some (.null), some (.null), some (.ref e3), none]) (by decide +kernel) (Nat.le_of_ble_eq_true rfl) rfl ?_
  refine r_aload_n (y := m6_init) dX6_init_0 rfl rfl ?_
  refine r_objInit (y := m6_init) dX6_init_1 oi_X6 oi_inst oi_code (by decide) (Nat.le_of_ble_eq_true rfl) ?_
  refine r_aload_n (y := m6_init) dX6_init_4 rfl rfl ?_
  refine r_aload_nN (y := m6_init) dX6_init_5 rfl rfl ?_
  refine r_putRF0 (y := m6_init) (ci := 6) (j := 0) (ty := (.object "Choicepoint$Expression")) dX6_init_6 (congrArg Prod.fst e0) (by decide) (by decide) (by decide) (r17_law _ (List.mem_of_getElem? (i := 18) rfl)) rfl rfl rfl (by decide +kernel) ⟨rfl, rfl⟩ ?_
  refine r_aload_n (y := m6_init) dX6_init_9 rfl rfl ?_
  refine r_aload_nN (y := m6_init) dX6_init_10 rfl rfl ?_
  refine r_putRF0 (y := m6_init) (ci := 6) (j := 1) (ty := (.object "Choicepoint$Expression")) dX6_init_11 (congrArg Prod.fst e0) (by decide) (by decide) (by decide) (r17_law _ (List.mem_of_getElem? (i := 19) rfl)) rfl rfl rfl (by decide +kernel) ⟨rfl, rfl⟩ ?_
  refine r_aload_n (y := m6_init) dX6_init_14 rfl rfl ?_
  refine r_aload_n (y := m6_init) dX6_init_15 rfl rfl ?_
  refine r_putRF (y := m6_init) (ci := 6) (j := 2) (ty := (.object "Choicepoint$Expression")) dX6_init_16 (congrArg Prod.fst e0) (by decide) (by decide) (by decide) (r17_law _ (List.mem_of_getElem? (i := 20) rfl)) rfl rfl rfl (by decide +kernel) (fun _ => ⟨rfl, rfl⟩) ?_
  generalize hM : mSetR (mSetR (mSetR M0 r 0 none) r 1 none) r 2 (some e3) = M
  have gM : Ga r M0 M := by
    rw [← hM]
    refine ⟨rfl, rfl, rfl, rfl, fun x hx => ⟨rfl, ?_⟩⟩
    funext j
    rw [mR_setR, if_neg (by omega), mR_setR, if_neg (by omega), mR_setR, if_neg (by omega)]
  have eM : mS M r = (6, 0) := by rw [← hM]; exact e0
  have q0 : mR M r 0 = none := by rw [← hM]; simp [mR_setR]
  have q1 : mR M r 1 = none := by rw [← hM]; simp [mR_setR]
  have q2 : mR M r 2 = some e3 := by rw [← hM]; simp [mR_setR]
  have sM : St M := gM.st h714 hm
  refine r_aload_nN (y := m6_init) dX6_init_19 rfl rfl ?_
  refine r_iconst (y := m6_init) (v := 0) dX6_init_20 (by decide) ?_
  refine r_callS (y := m6_init) (As := [(.null), (.int (so (some 0)))]) dX6_init_21 rfl k6_addNames lm_X6_21 rfl ⟨by decide, by decide⟩ (Nat.le_of_ble_eq_true rfl) (C.mono (s6_namesN (r := some 0) sM) ?_)
  rintro o m' ⟨rfl, rfl⟩
  refine ⟨_, rfl, ?_⟩
  generalize hn1 : pno none (some 0) = n1
  have l1 : ∀ s, n1 = some s → s < 64 := by
    rw [← hn1]
    exact pno_lt (nf := nf) (fp := fp) (fun u hu => by cases hu) (fun s h => by cases h; decide)
  refine r_istore (y := m6_init) (L' := [some (.ref r), some (.null), some (.null), some (.ref e3), some (.int (so n1))]) dX6_init_24 (Nat.le_of_ble_eq_true rfl) rfl ?_
  refine r_aload_nN (y := m6_init) dX6_init_26 rfl rfl ?_
  refine r_iload (y := m6_init) dX6_init_27 rfl ?_
  refine r_callS (y := m6_init) (As := [(.null), (.int (so n1))]) dX6_init_29 rfl k6_addNames lm_X6_21 rfl ⟨by decide, by decide⟩ (Nat.le_of_ble_eq_true rfl) (C.mono (s6_namesN sM) ?_)
  rintro o m' ⟨rfl, rfl⟩
  refine ⟨_, rfl, ?_⟩
  have er : pno none n1 = rset (none, none, t3) := by
    unfold rset
    rw [← hn1]
  rw [er]
  generalize hn2 : rset (none, none, t3) = n2
  have l2 : ∀ s, n2 = some s → s < 64 := by
    rw [← hn2, ← er]
    exact pno_lt (nf := nf) (fp := fp) (fun u hu => by cases hu) l1
  refine r_istore (y := m6_init) (L' := [some (.ref r), some (.null), some (.null), some (.ref e3), some (.int (so n2))]) dX6_init_32 (Nat.le_of_ble_eq_true rfl) rfl ?_
  refine r_aload_n (y := m6_init) dX6_init_34 rfl rfl ?_
  refine r_iload (y := m6_init) dX6_init_35 rfl ?_
  refine r_putIF (y := m6_init) (ci := 6) (j := 3) (ty := .int) dX6_init_37 (congrArg Prod.fst eM) (by decide) (by decide) (by decide) (r17_law _ (List.mem_of_getElem? (i := 21) rfl)) rfl rfl rfl (by decide +kernel) rfl rfl ?_
  refine r_aload_n (y := m6_init) dX6_init_40 rfl rfl ?_
  refine r_iload (y := m6_init) dX6_init_41 rfl ?_
  have fin : ∀ v : Int32, v = (if n2.isSome = true then 1 else 0) → V m6_init 51 [some (.ref r), some (.null), some (.null), some (.ref e3), some (.int (so n2))] [.int v, .ref r] (mSetI m' r 3 (so n2)) (fun o m' => o = .inl none ∧ Ga r M0 m' ∧ RulT m' r (none, none, t3) ∧ mI m' r 4 = (if n2.isSome = true then 1 else 0)) := by
    intro v hv
    have v01 : v = 0 ∨ v = 1 := by
      rw [hv]
      split
      · exact Or.inr rfl
      · exact Or.inl rfl
    refine r_putIF (y := m6_init) (ci := 6) (j := 4) (ty := .boolean) dX6_init_51 (congrArg Prod.fst eM) (by decide) (by decide) (by decide) (r17_law _ (List.mem_of_getElem? (i := 22) rfl)) rfl rfl rfl (by decide +kernel) (b01 v01) (by rcases v01 with rfl | rfl <;> decide) ?_
    have g2 : Ga r M0 (mSetI (mSetI m' r 3 (so n2)) r 4 v) := by
      refine ⟨gM.1, gM.2.1, gM.2.2.1, gM.2.2.2.1, fun x hx => ⟨?_, (gM.2.2.2.2 x hx).2⟩⟩
      funext j
      rw [mI_set, if_neg (by omega), mI_set, if_neg (by omega)]
      exact congrFun (gM.2.2.2.2 x hx).1 j
    refine r_ret (y := m6_init) dX6_init_54 rfl ⟨rfl, g2, ⟨h714, by show r < mN m'; rw [gM.1]; exact hrN, eM, ?_, ?_, ?_, ?_⟩, ?_⟩
    · show EO _ (mR m' r 0) none
      rw [q0]
      exact rfl
    · show EO _ (mR m' r 1) none
      rw [q1]
      exact rfl
    · show EO _ (mR m' r 2) (some t3)
      rw [q2]
      exact ⟨e3, rfl, x3.ga w3 g2 r3⟩
    · rw [mI_set, if_neg (by omega), mI_set, if_pos ⟨rfl, rfl⟩, hn2]
    · rw [mI_set, if_pos ⟨rfl, rfl⟩]
      exact hv
  refine r_if_lt (y := m6_init) (tgt := 50) dX6_init_43 (by decide) (fun hc => ?_) (fun hc => ?_)
  · refine r_iconst (y := m6_init) (v := 0) dX6_init_50 (by decide) (fin 0 ?_)
    cases n2 with
    | none => rfl
    | some s => exact absurd hc (nn_neg (by have := l2 s rfl; omega))
  · refine r_iconst (y := m6_init) (v := 1) dX6_init_46 (by decide) ?_
    refine r_goto (y := m6_init) (tgt := 51) dX6_init_47 (by decide) (fin 1 ?_)
    cases n2 with
    | none => exact absurd (by decide) hc
    | some s => rfl
set_option maxHeartbeats 4000000 in
set_option maxRecDepth 100000 in
theorem s6_initRN {nf : Nat} {fp : Nat → Nat} {M0 : Mm} {r : Nat} {e1 : Nat} {t1 : Tr} (x1 : ExpT M0 e1 t1) (z1 : tsz t1 ≤ 12) (w1 : twf nf fp t1) (r1 : r < e1) {e3 : Nat} {t3 : Tr} (hnf : nf ≤ 8) (hm : St M0) (h714 : 714 ≤ r) (hrN : r < mN M0) (e0 : mS M0 r = (6, 0)) (x3 : ExpT M0 e3 t3) (w3 : twf nf fp t3) (r3 : r < e3) : C m6_init [.ref r, .ref e1, .null, .ref e3] M0 (fun o m' => o = .inl none ∧ Ga r M0 m' ∧ RulT m' r ((some t1), none, t3) ∧ mI m' r 4 = (if (rset ((some t1), none, t3)).isSome = true then 1 else 0)) := by
  refine C.of (L := [some (.ref r), some (.ref e1), some (.null), some (.ref e3), none]) (by decide +kernel) (Nat.le_of_ble_eq_true rfl) rfl ?_
  refine r_aload_n (y := m6_init) dX6_init_0 rfl rfl ?_
  refine r_objInit (y := m6_init) dX6_init_1 oi_X6 oi_inst oi_code (by decide) (Nat.le_of_ble_eq_true rfl) ?_
  refine r_aload_n (y := m6_init) dX6_init_4 rfl rfl ?_
  refine r_aload_n (y := m6_init) dX6_init_5 rfl rfl ?_
  refine r_putRF (y := m6_init) (ci := 6) (j := 0) (ty := (.object "Choicepoint$Expression")) dX6_init_6 (congrArg Prod.fst e0) (by decide) (by decide) (by decide) (r17_law _ (List.mem_of_getElem? (i := 18) rfl)) rfl rfl rfl (by decide +kernel) (fun _ => ⟨rfl, rfl⟩) ?_
  refine r_aload_n (y := m6_init) dX6_init_9 rfl rfl ?_
  refine r_aload_nN (y := m6_init) dX6_init_10 rfl rfl ?_
  refine r_putRF0 (y := m6_init) (ci := 6) (j := 1) (ty := (.object "Choicepoint$Expression")) dX6_init_11 (congrArg Prod.fst e0) (by decide) (by decide) (by decide) (r17_law _ (List.mem_of_getElem? (i := 19) rfl)) rfl rfl rfl (by decide +kernel) ⟨rfl, rfl⟩ ?_
  refine r_aload_n (y := m6_init) dX6_init_14 rfl rfl ?_
  refine r_aload_n (y := m6_init) dX6_init_15 rfl rfl ?_
  refine r_putRF (y := m6_init) (ci := 6) (j := 2) (ty := (.object "Choicepoint$Expression")) dX6_init_16 (congrArg Prod.fst e0) (by decide) (by decide) (by decide) (r17_law _ (List.mem_of_getElem? (i := 20) rfl)) rfl rfl rfl (by decide +kernel) (fun _ => ⟨rfl, rfl⟩) ?_
  generalize hM : mSetR (mSetR (mSetR M0 r 0 (some e1)) r 1 none) r 2 (some e3) = M
  have gM : Ga r M0 M := by
    rw [← hM]
    refine ⟨rfl, rfl, rfl, rfl, fun x hx => ⟨rfl, ?_⟩⟩
    funext j
    rw [mR_setR, if_neg (by omega), mR_setR, if_neg (by omega), mR_setR, if_neg (by omega)]
  have eM : mS M r = (6, 0) := by rw [← hM]; exact e0
  have q0 : mR M r 0 = (some e1) := by rw [← hM]; simp [mR_setR]
  have q1 : mR M r 1 = none := by rw [← hM]; simp [mR_setR]
  have q2 : mR M r 2 = some e3 := by rw [← hM]; simp [mR_setR]
  have sM : St M := gM.st h714 hm
  refine r_aload_n (y := m6_init) dX6_init_19 rfl rfl ?_
  refine r_iconst (y := m6_init) (v := 0) dX6_init_20 (by decide) ?_
  refine r_callS (y := m6_init) (As := [(.ref e1), (.int (so (some 0)))]) dX6_init_21 rfl k6_addNames lm_X6_21 rfl ⟨by decide, by decide⟩ (Nat.le_of_ble_eq_true rfl) (C.mono (s6_names (r := some 0) hnf sM (x1.ga w1 gM r1) z1 w1 (fun s h => by cases h; decide)) ?_)
  rintro o m' ⟨rfl, rfl⟩
  refine ⟨_, rfl, ?_⟩
  generalize hn1 : pno (some t1) (some 0) = n1
  have l1 : ∀ s, n1 = some s → s < 64 := by
    rw [← hn1]
    exact pno_lt (nf := nf) (fp := fp) (fun u hu => by cases hu; exact w1) (fun s h => by cases h; decide)
  refine r_istore (y := m6_init) (L' := [some (.ref r), some (.ref e1), some (.null), some (.ref e3), some (.int (so n1))]) dX6_init_24 (Nat.le_of_ble_eq_true rfl) rfl ?_
  refine r_aload_nN (y := m6_init) dX6_init_26 rfl rfl ?_
  refine r_iload (y := m6_init) dX6_init_27 rfl ?_
  refine r_callS (y := m6_init) (As := [(.null), (.int (so n1))]) dX6_init_29 rfl k6_addNames lm_X6_21 rfl ⟨by decide, by decide⟩ (Nat.le_of_ble_eq_true rfl) (C.mono (s6_namesN sM) ?_)
  rintro o m' ⟨rfl, rfl⟩
  refine ⟨_, rfl, ?_⟩
  have er : pno none n1 = rset ((some t1), none, t3) := by
    unfold rset
    rw [← hn1]
  rw [er]
  generalize hn2 : rset ((some t1), none, t3) = n2
  have l2 : ∀ s, n2 = some s → s < 64 := by
    rw [← hn2, ← er]
    exact pno_lt (nf := nf) (fp := fp) (fun u hu => by cases hu) l1
  refine r_istore (y := m6_init) (L' := [some (.ref r), some (.ref e1), some (.null), some (.ref e3), some (.int (so n2))]) dX6_init_32 (Nat.le_of_ble_eq_true rfl) rfl ?_
  refine r_aload_n (y := m6_init) dX6_init_34 rfl rfl ?_
  refine r_iload (y := m6_init) dX6_init_35 rfl ?_
  refine r_putIF (y := m6_init) (ci := 6) (j := 3) (ty := .int) dX6_init_37 (congrArg Prod.fst eM) (by decide) (by decide) (by decide) (r17_law _ (List.mem_of_getElem? (i := 21) rfl)) rfl rfl rfl (by decide +kernel) rfl rfl ?_
  refine r_aload_n (y := m6_init) dX6_init_40 rfl rfl ?_
  refine r_iload (y := m6_init) dX6_init_41 rfl ?_
  have fin : ∀ v : Int32, v = (if n2.isSome = true then 1 else 0) → V m6_init 51 [some (.ref r), some (.ref e1), some (.null), some (.ref e3), some (.int (so n2))] [.int v, .ref r] (mSetI m' r 3 (so n2)) (fun o m' => o = .inl none ∧ Ga r M0 m' ∧ RulT m' r ((some t1), none, t3) ∧ mI m' r 4 = (if n2.isSome = true then 1 else 0)) := by
    intro v hv
    have v01 : v = 0 ∨ v = 1 := by
      rw [hv]
      split
      · exact Or.inr rfl
      · exact Or.inl rfl
    refine r_putIF (y := m6_init) (ci := 6) (j := 4) (ty := .boolean) dX6_init_51 (congrArg Prod.fst eM) (by decide) (by decide) (by decide) (r17_law _ (List.mem_of_getElem? (i := 22) rfl)) rfl rfl rfl (by decide +kernel) (b01 v01) (by rcases v01 with rfl | rfl <;> decide) ?_
    have g2 : Ga r M0 (mSetI (mSetI m' r 3 (so n2)) r 4 v) := by
      refine ⟨gM.1, gM.2.1, gM.2.2.1, gM.2.2.2.1, fun x hx => ⟨?_, (gM.2.2.2.2 x hx).2⟩⟩
      funext j
      rw [mI_set, if_neg (by omega), mI_set, if_neg (by omega)]
      exact congrFun (gM.2.2.2.2 x hx).1 j
    refine r_ret (y := m6_init) dX6_init_54 rfl ⟨rfl, g2, ⟨h714, by show r < mN m'; rw [gM.1]; exact hrN, eM, ?_, ?_, ?_, ?_⟩, ?_⟩
    · show EO _ (mR m' r 0) (some t1)
      rw [q0]
      exact ⟨e1, rfl, x1.ga w1 g2 r1⟩
    · show EO _ (mR m' r 1) none
      rw [q1]
      exact rfl
    · show EO _ (mR m' r 2) (some t3)
      rw [q2]
      exact ⟨e3, rfl, x3.ga w3 g2 r3⟩
    · rw [mI_set, if_neg (by omega), mI_set, if_pos ⟨rfl, rfl⟩, hn2]
    · rw [mI_set, if_pos ⟨rfl, rfl⟩]
      exact hv
  refine r_if_lt (y := m6_init) (tgt := 50) dX6_init_43 (by decide) (fun hc => ?_) (fun hc => ?_)
  · refine r_iconst (y := m6_init) (v := 0) dX6_init_50 (by decide) (fin 0 ?_)
    cases n2 with
    | none => rfl
    | some s => exact absurd hc (nn_neg (by have := l2 s rfl; omega))
  · refine r_iconst (y := m6_init) (v := 1) dX6_init_46 (by decide) ?_
    refine r_goto (y := m6_init) (tgt := 51) dX6_init_47 (by decide) (fin 1 ?_)
    cases n2 with
    | none => exact absurd (by decide) hc
    | some s => rfl
set_option maxHeartbeats 4000000 in
set_option maxRecDepth 100000 in
theorem s6_initRR {nf : Nat} {fp : Nat → Nat} {M0 : Mm} {r : Nat} {e1 : Nat} {t1 : Tr} (x1 : ExpT M0 e1 t1) (z1 : tsz t1 ≤ 12) (w1 : twf nf fp t1) (r1 : r < e1) {e2 : Nat} {t2 : Tr} (x2 : ExpT M0 e2 t2) (z2 : tsz t2 ≤ 12) (w2 : twf nf fp t2) (r2 : r < e2) {e3 : Nat} {t3 : Tr} (hnf : nf ≤ 8) (hm : St M0) (h714 : 714 ≤ r) (hrN : r < mN M0) (e0 : mS M0 r = (6, 0)) (x3 : ExpT M0 e3 t3) (w3 : twf nf fp t3) (r3 : r < e3) : C m6_init [.ref r, .ref e1, .ref e2, .ref e3] M0 (fun o m' => o = .inl none ∧ Ga r M0 m' ∧ RulT m' r ((some t1), (some t2), t3) ∧ mI m' r 4 = (if (rset ((some t1), (some t2), t3)).isSome = true then 1 else 0)) := by
  refine C.of (L := [some (.ref r), some (.ref e1), some (.ref e2), some (.ref e3), none]) (by decide +kernel) (Nat.le_of_ble_eq_true rfl) rfl ?_
  refine r_aload_n (y := m6_init) dX6_init_0 rfl rfl ?_
  refine r_objInit (y := m6_init) dX6_init_1 oi_X6 oi_inst oi_code (by decide) (Nat.le_of_ble_eq_true rfl) ?_
  refine r_aload_n (y := m6_init) dX6_init_4 rfl rfl ?_
  refine r_aload_n (y := m6_init) dX6_init_5 rfl rfl ?_
  refine r_putRF (y := m6_init) (ci := 6) (j := 0) (ty := (.object "Choicepoint$Expression")) dX6_init_6 (congrArg Prod.fst e0) (by decide) (by decide) (by decide) (r17_law _ (List.mem_of_getElem? (i := 18) rfl)) rfl rfl rfl (by decide +kernel) (fun _ => ⟨rfl, rfl⟩) ?_
  refine r_aload_n (y := m6_init) dX6_init_9 rfl rfl ?_
  refine r_aload_n (y := m6_init) dX6_init_10 rfl rfl ?_
  refine r_putRF (y := m6_init) (ci := 6) (j := 1) (ty := (.object "Choicepoint$Expression")) dX6_init_11 (congrArg Prod.fst e0) (by decide) (by decide) (by decide) (r17_law _ (List.mem_of_getElem? (i := 19) rfl)) rfl rfl rfl (by decide +kernel) (fun _ => ⟨rfl, rfl⟩) ?_
  refine r_aload_n (y := m6_init) dX6_init_14 rfl rfl ?_
  refine r_aload_n (y := m6_init) dX6_init_15 rfl rfl ?_
  refine r_putRF (y := m6_init) (ci := 6) (j := 2) (ty := (.object "Choicepoint$Expression")) dX6_init_16 (congrArg Prod.fst e0) (by decide) (by decide) (by decide) (r17_law _ (List.mem_of_getElem? (i := 20) rfl)) rfl rfl rfl (by decide +kernel) (fun _ => ⟨rfl, rfl⟩) ?_
  generalize hM : mSetR (mSetR (mSetR M0 r 0 (some e1)) r 1 (some e2)) r 2 (some e3) = M
  have gM : Ga r M0 M := by
    rw [← hM]
    refine ⟨rfl, rfl, rfl, rfl, fun x hx => ⟨rfl, ?_⟩⟩
    funext j
    rw [mR_setR, if_neg (by omega), mR_setR, if_neg (by omega), mR_setR, if_neg (by omega)]
  have eM : mS M r = (6, 0) := by rw [← hM]; exact e0
  have q0 : mR M r 0 = (some e1) := by rw [← hM]; simp [mR_setR]
  have q1 : mR M r 1 = (some e2) := by rw [← hM]; simp [mR_setR]
  have q2 : mR M r 2 = some e3 := by rw [← hM]; simp [mR_setR]
  have sM : St M := gM.st h714 hm
  refine r_aload_n (y := m6_init) dX6_init_19 rfl rfl ?_
  refine r_iconst (y := m6_init) (v := 0) dX6_init_20 (by decide) ?_
  refine r_callS (y := m6_init) (As := [(.ref e1), (.int (so (some 0)))]) dX6_init_21 rfl k6_addNames lm_X6_21 rfl ⟨by decide, by decide⟩ (Nat.le_of_ble_eq_true rfl) (C.mono (s6_names (r := some 0) hnf sM (x1.ga w1 gM r1) z1 w1 (fun s h => by cases h; decide)) ?_)
  rintro o m' ⟨rfl, rfl⟩
  refine ⟨_, rfl, ?_⟩
  generalize hn1 : pno (some t1) (some 0) = n1
  have l1 : ∀ s, n1 = some s → s < 64 := by
    rw [← hn1]
    exact pno_lt (nf := nf) (fp := fp) (fun u hu => by cases hu; exact w1) (fun s h => by cases h; decide)
  refine r_istore (y := m6_init) (L' := [some (.ref r), some (.ref e1), some (.ref e2), some (.ref e3), some (.int (so n1))]) dX6_init_24 (Nat.le_of_ble_eq_true rfl) rfl ?_
  refine r_aload_n (y := m6_init) dX6_init_26 rfl rfl ?_
  refine r_iload (y := m6_init) dX6_init_27 rfl ?_
  refine r_callS (y := m6_init) (As := [(.ref e2), (.int (so n1))]) dX6_init_29 rfl k6_addNames lm_X6_21 rfl ⟨by decide, by decide⟩ (Nat.le_of_ble_eq_true rfl) (C.mono (s6_names hnf sM (x2.ga w2 gM r2) z2 w2 l1) ?_)
  rintro o m' ⟨rfl, rfl⟩
  refine ⟨_, rfl, ?_⟩
  have er : pno (some t2) n1 = rset ((some t1), (some t2), t3) := by
    unfold rset
    rw [← hn1]
  rw [er]
  generalize hn2 : rset ((some t1), (some t2), t3) = n2
  have l2 : ∀ s, n2 = some s → s < 64 := by
    rw [← hn2, ← er]
    exact pno_lt (nf := nf) (fp := fp) (fun u hu => by cases hu; exact w2) l1
  refine r_istore (y := m6_init) (L' := [some (.ref r), some (.ref e1), some (.ref e2), some (.ref e3), some (.int (so n2))]) dX6_init_32 (Nat.le_of_ble_eq_true rfl) rfl ?_
  refine r_aload_n (y := m6_init) dX6_init_34 rfl rfl ?_
  refine r_iload (y := m6_init) dX6_init_35 rfl ?_
  refine r_putIF (y := m6_init) (ci := 6) (j := 3) (ty := .int) dX6_init_37 (congrArg Prod.fst eM) (by decide) (by decide) (by decide) (r17_law _ (List.mem_of_getElem? (i := 21) rfl)) rfl rfl rfl (by decide +kernel) rfl rfl ?_
  refine r_aload_n (y := m6_init) dX6_init_40 rfl rfl ?_
  refine r_iload (y := m6_init) dX6_init_41 rfl ?_
  have fin : ∀ v : Int32, v = (if n2.isSome = true then 1 else 0) → V m6_init 51 [some (.ref r), some (.ref e1), some (.ref e2), some (.ref e3), some (.int (so n2))] [.int v, .ref r] (mSetI m' r 3 (so n2)) (fun o m' => o = .inl none ∧ Ga r M0 m' ∧ RulT m' r ((some t1), (some t2), t3) ∧ mI m' r 4 = (if n2.isSome = true then 1 else 0)) := by
    intro v hv
    have v01 : v = 0 ∨ v = 1 := by
      rw [hv]
      split
      · exact Or.inr rfl
      · exact Or.inl rfl
    refine r_putIF (y := m6_init) (ci := 6) (j := 4) (ty := .boolean) dX6_init_51 (congrArg Prod.fst eM) (by decide) (by decide) (by decide) (r17_law _ (List.mem_of_getElem? (i := 22) rfl)) rfl rfl rfl (by decide +kernel) (b01 v01) (by rcases v01 with rfl | rfl <;> decide) ?_
    have g2 : Ga r M0 (mSetI (mSetI m' r 3 (so n2)) r 4 v) := by
      refine ⟨gM.1, gM.2.1, gM.2.2.1, gM.2.2.2.1, fun x hx => ⟨?_, (gM.2.2.2.2 x hx).2⟩⟩
      funext j
      rw [mI_set, if_neg (by omega), mI_set, if_neg (by omega)]
      exact congrFun (gM.2.2.2.2 x hx).1 j
    refine r_ret (y := m6_init) dX6_init_54 rfl ⟨rfl, g2, ⟨h714, by show r < mN m'; rw [gM.1]; exact hrN, eM, ?_, ?_, ?_, ?_⟩, ?_⟩
    · show EO _ (mR m' r 0) (some t1)
      rw [q0]
      exact ⟨e1, rfl, x1.ga w1 g2 r1⟩
    · show EO _ (mR m' r 1) (some t2)
      rw [q1]
      exact ⟨e2, rfl, x2.ga w2 g2 r2⟩
    · show EO _ (mR m' r 2) (some t3)
      rw [q2]
      exact ⟨e3, rfl, x3.ga w3 g2 r3⟩
    · rw [mI_set, if_neg (by omega), mI_set, if_pos ⟨rfl, rfl⟩, hn2]
    · rw [mI_set, if_pos ⟨rfl, rfl⟩]
      exact hv
  refine r_if_lt (y := m6_init) (tgt := 50) dX6_init_43 (by decide) (fun hc => ?_) (fun hc => ?_)
  · refine r_iconst (y := m6_init) (v := 0) dX6_init_50 (by decide) (fin 0 ?_)
    cases n2 with
    | none => rfl
    | some s => exact absurd hc (nn_neg (by have := l2 s rfl; omega))
  · refine r_iconst (y := m6_init) (v := 1) dX6_init_46 (by decide) ?_
    refine r_goto (y := m6_init) (tgt := 51) dX6_init_47 (by decide) (fin 1 ?_)
    cases n2 with
    | none => exact absurd (by decide) hc
    | some s => rfl
