/-! THE NODES, IN THE CLASS -/
/-- all but ints at S stay -/
def Fr (S : Nat → Nat → Prop) (m m' : Mm) : Prop := mN m' = mN m ∧ mC m' = mC m ∧ mZ m' = mZ m ∧ mS m' = mS m ∧ mR m' = mR m ∧ ∀ a j, ¬ S a j → mI m' a j = mI m a j
theorem Fr.refl {S : Nat → Nat → Prop} {m : Mm} : Fr S m m := ⟨rfl, rfl, rfl, rfl, rfl, fun _ _ _ => rfl⟩
theorem Fr.trans {S : Nat → Nat → Prop} {m m1 m2 : Mm} (h : Fr S m m1) (h2 : Fr S m1 m2) : Fr S m m2 :=
  ⟨h2.1.trans h.1, h2.2.1.trans h.2.1, h2.2.2.1.trans h.2.2.1, h2.2.2.2.1.trans h.2.2.2.1, h2.2.2.2.2.1.trans h.2.2.2.2.1, fun a j hs => (h2.2.2.2.2.2 a j hs).trans (h.2.2.2.2.2 a j hs)⟩
theorem Fr.mono {S S' : Nat → Nat → Prop} {m m1 : Mm} (h : Fr S m m1) (hs : ∀ a j, S a j → S' a j) : Fr S' m m1 :=
  ⟨h.1, h.2.1, h.2.2.1, h.2.2.2.1, h.2.2.2.2.1, fun a j q => h.2.2.2.2.2 a j (fun w => q (hs a j w))⟩
theorem Fr.set {S : Nat → Nat → Prop} {m m1 : Mm} {a j : Nat} {v : Int32} (h : Fr S m m1) (hs : S a j) : Fr S m (mSetI m1 a j v) :=
  ⟨h.1, h.2.1, h.2.2.1, h.2.2.2.1, h.2.2.2.2.1, fun b k q => by
    rw [mI_set, if_neg (fun w => q (by rw [w.1, w.2]; exact hs))]
    exact h.2.2.2.2.2 b k q⟩
theorem Fr.st {S : Nat → Nat → Prop} {m m1 : Mm} (h : Fr S m m1) (hm : St m) : St m1 := by
  obtain ⟨h1, h2, h3, h4, h5, -⟩ := h
  refine ⟨fun a ha => ?_, fun a j b hs => ?_, ?_⟩
  · rw [h4]
    exact hm.1 a ha
  · rw [h5]
    exact hm.2.1 a j b hs
  · rw [h1]
    exact hm.2.2
theorem Fr.i {S : Nat → Nat → Prop} {m m1 : Mm} (h : Fr S m m1) {a j : Nat} (hs : ¬ S a j) : mI m1 a j = mI m a j := h.2.2.2.2.2 a j hs
theorem Fr.s {S : Nat → Nat → Prop} {m m1 : Mm} (h : Fr S m m1) : mS m1 = mS m := h.2.2.2.1
theorem Fr.r {S : Nat → Nat → Prop} {m m1 : Mm} (h : Fr S m m1) : mR m1 = mR m := h.2.2.2.2.1
/-- the list's entry at an int -/
def nget (l : List Tr) (a : Int32) : Option Tr := if a < 0 then none else l[a.toNatClampNeg]?
def szo (r : Option Tr) : Nat := match r with
  | none => 0
  | some t => tsz t
/-- what a node's number says of a part -/
def kidOf (l : List Tr) (n : Nat) (x : Int32) (k : Option Tr) : Prop := match k with
  | none => x = -1
  | some t => ∃ i, i < n ∧ x = nn i ∧ l[i]? = some t
def kid1 : Tr → Option Tr
  | .tag _ (.nest _ a) => some a
  | .tag _ (.append a _) => some a
  | _ => none
def kid2 : Tr → Option Tr
  | .tag _ (.append _ b) => some b
  | _ => none
theorem kid1_lf (c : Nat) : kid1 (tlf c) = none := rfl
theorem kid1_un (c : Nat) (a : Tr) : kid1 (tun c a) = some a := rfl
theorem kid1_bi (c : Nat) (a b : Tr) : kid1 (tbi c a b) = some a := rfl
theorem kid2_lf (c : Nat) : kid2 (tlf c) = none := rfl
theorem kid2_un (c : Nat) (a : Tr) : kid2 (tun c a) = none := rfl
theorem kid2_bi (c : Nat) (a b : Tr) : kid2 (tbi c a b) = some b := rfl
/-- the class's tag and number of a code -/
def ctg (c : Nat) : Nat := if c < 10 then 0 else if c < 20 then 1 else if c < 30 then 2 else c - 27
def cwh (c : Nat) : Nat := if c < 10 then c else if c < 20 then c - 10 else if c < 30 then c - 20 else 0
/-- the nodes that are told, in the class's rows -/
def CN (m : Mm) (nds : List Tr) : Prop := mI m 1 5 = nn nds.length ∧ nds.length ≤ 80 ∧ ∀ i t, nds[i]? = some t →
  mI m 2 i = nn (ctg (tcode t)) ∧ mI m 3 i = nn (cwh (tcode t)) ∧ kidOf nds i (mI m 4 i) (kid1 t) ∧ kidOf nds i (mI m 5 i) (kid2 t) ∧ mI m 6 i = nn (tsz t) ∧ tsz t ≤ 12
theorem CN.fr {S : Nat → Nat → Prop} {m m1 : Mm} {nds : List Tr} (h : CN m nds) (hf : Fr S m m1) (hs : ∀ a j, S a j → ¬ (1 ≤ a ∧ a < 7)) : CN m1 nds := by
  have e : ∀ a j, 1 ≤ a → a < 7 → mI m1 a j = mI m a j := fun a j h1 h2 => hf.i (fun q => hs a j q ⟨h1, h2⟩)
  refine ⟨(e 1 5 (by decide) (by decide)).trans h.1, h.2.1, fun i t ht => ?_⟩
  rw [e 2 i (by decide) (by decide), e 3 i (by decide) (by decide), e 4 i (by decide) (by decide), e 5 i (by decide) (by decide), e 6 i (by decide) (by decide)]
  exact h.2.2 i t ht
theorem nget_some {l : List Tr} {a : Int32} {t : Tr} (h : nget l a = some t) : ¬ a < 0 ∧ a.toNatClampNeg < l.length ∧ l[a.toNatClampNeg]? = some t := by
  unfold nget at h
  by_cases h0 : a < 0
  · rw [if_pos h0] at h
    cases h
  · rw [if_neg h0] at h
    exact ⟨h0, (List.getElem?_eq_some_iff.mp h).1, h⟩
theorem nget_nn {l : List Tr} {i : Nat} (h : i < 2147483648) : nget l (nn i) = l[i]? := by
  unfold nget
  rw [if_neg (nn_neg h), nn_tn h]
theorem nget_m1 {l : List Tr} : nget l (-1) = none := rfl
/-- has -/
theorem s4_has {m : Mm} {nds : List Tr} (hm : St m) (h : CN m nds) (a : Int32) : C m4_has [.ref 1, .int a] m (fun o m' => m' = m ∧ o = .inl (some (.int (if (nget nds a).isSome = true then 1 else 0)))) := by
  have hN := h.2.1
  refine C.of (by decide +kernel) (Nat.le_of_ble_eq_true rfl) rfl (w4_has hm ⟨fun h0 => ⟨rfl, ?_⟩, fun h0 => ⟨fun h1 => ⟨rfl, ?_⟩, fun h1 => ⟨rfl, ?_⟩⟩⟩)
  · have e : nget nds a = none := if_pos h0
    rw [e]
    rfl
  · rw [h.1, nn_of h0, nn_le (by omega) (nn_bd a)] at h1
    have e : nget nds a = none := (if_neg h0).trans (List.getElem?_eq_none h1)
    rw [e]
    rfl
  · rw [h.1, nn_of h0, nn_le (by omega) (nn_bd a)] at h1
    have e : nget nds a = some (nds[a.toNatClampNeg]'(by omega)) := (if_neg h0).trans (List.getElem?_eq_getElem _)
    rw [e]
    rfl
theorem s4_sizeOf {m : Mm} {nds : List Tr} (hm : St m) (h : CN m nds) (a : Int32) : C m4_sizeOf [.ref 1, .int a] m (fun o m' => m' = m ∧ o = .inl (some (.int (nn (szo (nget nds a)))))) := by
  refine C.of (by decide +kernel) (Nat.le_of_ble_eq_true rfl) rfl (w4_sizeOf hm (C.mono (s4_has hm h a) ?_))
  rintro o m' ⟨rfl, rfl⟩
  refine ⟨_, rfl, hm, fun h0 => ⟨rfl, ?_⟩, fun h0 => ?_⟩
  · cases e : nget nds a with
    | none => rfl
    | some t =>
      rw [e, if_pos (show (some t).isSome = true from rfl)] at h0
      exact absurd h0 (by decide)
  · cases e : nget nds a with
    | none =>
      rw [e] at h0
      exact (h0 rfl).elim
    | some t =>
      obtain ⟨h1, h2, h3⟩ := nget_some e
      have h4 := h.2.1
      have h5 := (h.2.2 _ _ h3).2.2.2.2.1
      refine ⟨?_, rfl, ?_⟩
      · rw [nn_of h1]
        exact nn_in (nn_bd a) (by omega)
      · rw [h5]
        rfl
theorem szo_le {m : Mm} {nds : List Tr} (h : CN m nds) (a : Int32) : szo (nget nds a) ≤ 12 := by
  cases e : nget nds a with
  | none => exact Nat.zero_le _
  | some t => exact (h.2.2 _ _ (nget_some e).2.2).2.2.2.2.2
theorem s4_hasRoom {m : Mm} {nds : List Tr} (hm : St m) (h : CN m nds) (a b : Int32) : C m4_hasRoom [.ref 1, .int a, .int b] m (fun o m' => m' = m ∧ o = .inl (some (.int (if nds.length < 80 ∧ 1 + szo (nget nds a) + szo (nget nds b) ≤ 12 then 1 else 0)))) := by
  have hN := h.2.1
  have ha := szo_le h a
  have hb := szo_le h b
  refine C.of (by decide +kernel) (Nat.le_of_ble_eq_true rfl) rfl (w4_hasRoom hm ⟨fun h0 => ⟨rfl, ?_⟩, fun h0 => C.mono (s4_sizeOf hm h a) ?_⟩)
  · have h1 : (nn 80 : Int32) ≤ nn nds.length := by rw [← h.1]; exact h0
    rw [nn_le (by decide) (by omega)] at h1
    rw [if_neg (by omega)]
  · have h1 : ¬ (nn 80 : Int32) ≤ nn nds.length := by rw [← h.1]; exact h0
    rw [nn_le (by decide) (by omega)] at h1
    rintro o m' ⟨rfl, rfl⟩
    refine ⟨_, rfl, hm, C.mono (s4_sizeOf hm h b) ?_⟩
    rintro o m' ⟨rfl, rfl⟩
    refine ⟨_, rfl, hm, fun h2 => ⟨rfl, ?_⟩, fun h2 => ⟨rfl, ?_⟩⟩
    · have h3 : (nn 12 : Int32) < nn 1 + nn (szo (nget nds a)) + nn (szo (nget nds b)) := h2
      rw [nn_add, nn_add, nn_lt (by decide) (by omega)] at h3
      rw [if_neg (by omega)]
    · have h3 : ¬ (nn 12 : Int32) < nn 1 + nn (szo (nget nds a)) + nn (szo (nget nds b)) := h2
      rw [nn_add, nn_add, nn_lt (by decide) (by omega)] at h3
      rw [if_pos (by omega)]
/-- a node is added -/
theorem s4_add {m : Mm} {nds : List Tr} (hm : St m) (h : CN m nds) {t : Tr} {a b : Int32} (hr : nds.length < 80) (hz : tsz t = 1 + szo (nget nds a) + szo (nget nds b)) (hz2 : tsz t ≤ 12) (ha : kidOf nds nds.length a (kid1 t)) (hb : kidOf nds nds.length b (kid2 t)) :
    C m4_add [.ref 1, .int (nn (ctg (tcode t))), .int (nn (cwh (tcode t))), .int a, .int b] m (fun o m' => o = .inl (some (.int (nn nds.length))) ∧ Fr (fun a _ => 1 ≤ a ∧ a < 7) m m' ∧ CN m' (nds ++ [t])) := by
  have hin : vp_in (mI m 1 5) 80 := by rw [h.1]; exact nn_in (by omega) hr
  have htn : (mI m 1 5).toNatClampNeg = nds.length := by rw [h.1, nn_tn (by omega)]
  refine C.of (by decide +kernel) (Nat.le_of_ble_eq_true rfl) rfl (w4_add hm ⟨hin, hin, hin, hin, ?_⟩)
  rw [htn]
  generalize hm1 : mSetI (mSetI (mSetI (mSetI m 2 nds.length (nn (ctg (tcode t)))) 3 nds.length (nn (cwh (tcode t)))) 4 nds.length a) 5 nds.length b = m1
  have f1 : Fr (fun x j => 2 ≤ x ∧ x < 6 ∧ j = nds.length) m m1 := by
    rw [← hm1]
    exact (((Fr.refl.set ⟨by decide, by decide, rfl⟩).set ⟨by decide, by decide, rfl⟩).set ⟨by decide, by decide, rfl⟩).set ⟨by decide, by decide, rfl⟩
  have g2 : mI m1 2 nds.length = nn (ctg (tcode t)) := by rw [← hm1]; simp [mI_set]
  have g3 : mI m1 3 nds.length = nn (cwh (tcode t)) := by rw [← hm1]; simp [mI_set]
  have g4 : mI m1 4 nds.length = a := by rw [← hm1]; simp [mI_set]
  have g5 : mI m1 5 nds.length = b := by rw [← hm1]; simp [mI_set]
  have c1 : CN m1 nds := by
    refine ⟨(f1.i (by omega)).trans h.1, h.2.1, fun i u hu => ?_⟩
    have hi := (List.getElem?_eq_some_iff.mp hu).1
    rw [f1.i (by omega), f1.i (by omega), f1.i (by omega), f1.i (by omega), f1.i (by omega)]
    exact h.2.2 i u hu
  have s1 := f1.st hm
  refine C.mono (s4_sizeOf s1 c1 a) ?_
  rintro o m' ⟨rfl, rfl⟩
  refine ⟨_, rfl, s1, C.mono (s4_sizeOf s1 c1 b) ?_⟩
  rintro o m' ⟨rfl, rfl⟩
  refine ⟨_, rfl, s1, hin, ?_⟩
  have e1 : (1 : Int32) + nn (szo (nget nds a)) + nn (szo (nget nds b)) = nn (tsz t) := by
    show nn 1 + _ + _ = _
    rw [nn_add, nn_add, hz]
  rw [e1, h.1, nn_one]
  generalize hm2 : mSetI (mSetI m' 6 nds.length (nn (tsz t))) 1 5 (nn (nds.length + 1)) = m2
  have f2 : Fr (fun x j => (x = 6 ∧ j = nds.length) ∨ x = 1) m' m2 := by
    rw [← hm2]
    exact (Fr.refl.set (Or.inl ⟨rfl, rfl⟩)).set (Or.inr rfl)
  refine ⟨rfl, (f1.mono (fun x j q => by omega)).trans (f2.mono (fun x j q => by omega)), ?_, by rw [List.length_append]; exact hr, fun i u hu => ?_⟩
  · rw [← hm2, List.length_append]
    simp [mI_set]
  · have kx : ∀ {x : Int32} {n : Nat} {k : Option Tr}, n ≤ nds.length → kidOf nds n x k → kidOf (nds ++ [t]) n x k := by
      intro x n k hn hk
      cases k with
      | none => exact hk
      | some v =>
        obtain ⟨i, h1, h2, h3⟩ := hk
        exact ⟨i, h1, h2, by rw [List.getElem?_append_left (by omega)]; exact h3⟩
    by_cases hi : i < nds.length
    · rw [List.getElem?_append_left hi] at hu
      obtain ⟨q1, q2, q3, q4, q5, q6⟩ := c1.2.2 i u hu
      rw [f2.i (by omega), f2.i (by omega), f2.i (by omega), f2.i (by omega), f2.i (by omega)]
      exact ⟨q1, q2, kx (by omega) q3, kx (by omega) q4, q5, q6⟩
    · have hl := (List.getElem?_eq_some_iff.mp hu).1
      rw [List.length_append] at hl
      have hi2 : i = nds.length := by
        have h8 : i < nds.length + 1 := hl
        omega
      subst hi2
      rw [List.getElem?_append_right (Nat.le_refl _), Nat.sub_self] at hu
      cases hu
      rw [f2.i (by omega), f2.i (by omega), f2.i (by omega), f2.i (by omega), g2, g3, g4, g5]
      refine ⟨rfl, rfl, kx (Nat.le_refl _) ha, kx (Nat.le_refl _) hb, ?_, hz2⟩
      rw [← hm2]
      simp [mI_set]
