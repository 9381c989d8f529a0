/-! THE REFERENCE'S MEMORY OF A RUN -/
/-- tasks of the runs below a level, next first -/
def flatB (v : Nat → Lv) : Nat → List Tk
  | 0 => []
  | L + 1 => lK (v L) ++ flatB v L
theorem flatB_k {v v' : Nat → Lv} : ∀ {L : Nat}, (∀ j, j < L → lK (v' j) = lK (v j)) → flatB v' L = flatB v L
  | 0, _ => rfl
  | L + 1, h => by
    show lK (v' L) ++ flatB v' L = lK (v L) ++ flatB v L
    rw [h L (Nat.lt_succ_self _), flatB_k (fun j hj => h j (Nat.lt_succ_of_lt hj))]
theorem flatB_up {v : Nat → Lv} {w : Lv} {L o : Nat} (h : L ≤ o) : flatB (up1 v o w) L = flatB v L := flatB_k (fun j hj => by rw [up1_ne (by omega)])
theorem flatB_le {v : Nat → Lv} : ∀ {L o : Nat}, o ≤ L → ∃ l, flatB v L = l ++ flatB v o
  | 0, o, h => ⟨[], by obtain rfl : o = 0 := by omega
                       rfl⟩
  | L + 1, o, h => by
    by_cases e : o = L + 1
    · subst e
      exact ⟨[], rfl⟩
    · obtain ⟨l, hl⟩ := flatB_le (v := v) (L := L) (o := o) (by omega)
      exact ⟨lK (v L) ++ l, by show lK (v L) ++ flatB v L = _; rw [hl, List.append_assoc]⟩
def RD (m : Mm) (j : Nat) (D : List (Nat × Nat)) (G : List Nat) : Prop := mI m 694 j = nn D.length ∧ mI m 693 j = nn (D.length + G.length) ∧ (∀ i d, D.reverse[i]? = some d → mI m 695 (41 * j + i) = nn d.1 ∧ mI m 696 (41 * j + i) = nn d.2) ∧ ∀ i x, G[i]? = some x → mI m 695 (41 * j + D.length + i) = nn x
def RV (m : Mm) (L : Nat) (v : Nat → Lv) : Prop := mI m 668 31 = nn L ∧ ∀ j, j ≤ L → RD m j (lD (v j)) (lG (v j)) ∧ (1 ≤ j → mI m 690 j = nn (flatB v j).length ∧ mI m 691 j = nn (lX (v j)) ∧ mI m 692 j = nn (lU (v j)))
/-- all tasks -/
abbrev allK (s : Ac) : List Tk := flatB (aV s) (aL s + 1)
def RF (m : Mm) (s : Ac) : Prop := RT m (aC s) (aF s) (aM s) ∧ RN m (aP s) (aN s) ∧ RV m (aL s) (aV s) ∧ mI m 668 24 = nn (allK s).length ∧ RQ m (allK s) ∧ mI m 668 30 = nn (aS s)
def RM (m : Mm) (s : Ac) : Prop := mI m 668 29 = nn (aE s) ∧ (aE s = 5 → mI m 668 39 = nn (aB s)) ∧ RD m 0 (lD (aV s 0)) (lG (aV s 0)) ∧ (aE s < 2 → RF m s)
/-- what a run may change -/
def SR (a j : Nat) : Prop := (677 ≤ a ∧ a ≤ 698) ∨ a = 668 ∧ (j = 13 ∨ j = 22 ∨ j = 24 ∨ j = 29 ∨ j = 30 ∨ j = 31 ∨ j = 39)
/-- numbers that fit -/
def BD (s : Ac) : Prop := aC s ≤ 5000 ∧ aP s ≤ 150 ∧ aL s ≤ 105 ∧ (allK s).length ≤ 19000 ∧ aS s ≤ 100 ∧ (∀ x, aC s ≤ x → aM s x = 0) ∧ (∀ x, x < aC s → tK (aF s x) < 8 ∧ tO (aF s x) < 100 ∧ tW (aF s x) ≤ 105 ∧ aM s x < 2 ∧ (∀ y, tA (aF s x) = some y → y < aC s) ∧ (∀ y, tB (aF s x) = some y → y < aC s)) ∧ (∀ p k y, aN s p k = some y → y < aC s) ∧ ∀ j, j ≤ aL s → (lD (aV s j)).length + (lG (aV s j)).length ≤ 40 ∧ lU (aV s j) ≤ 20 ∧ lX (aV s j) < aC s + 1 ∧ ∀ d, d ∈ lD (aV s j) → d.1 < 100 ∧ d.2 < 100
theorem RD.fe {m m' : Mm} {j : Nat} {D : List (Nat × Nat)} {G : List Nat} (h : RD m j D G) (hb : D.length + G.length ≤ 40) (h1 : mI m' 693 j = mI m 693 j) (h2 : mI m' 694 j = mI m 694 j) (h3 : ∀ i, 41 * j ≤ i → i < 41 * j + 40 → mI m' 695 i = mI m 695 i ∧ mI m' 696 i = mI m 696 i) : RD m' j D G := by
  refine ⟨h2.trans h.1, h1.trans h.2.1, fun i d hd => ?_, fun i x hx => ?_⟩
  · have hi := (List.getElem?_eq_some_iff.mp hd).1
    rw [List.length_reverse] at hi
    rw [(h3 _ (by omega) (by omega)).1, (h3 _ (by omega) (by omega)).2]
    exact h.2.2.1 i d hd
  · have hi := (List.getElem?_eq_some_iff.mp hx).1
    rw [(h3 _ (by omega) (by omega)).1]
    exact h.2.2.2 i x hx
theorem RD.fe2 {m m' : Mm} {j : Nat} {D : List (Nat × Nat)} {G : List Nat} (h : RD m j D G) (he : ∀ a, 693 ≤ a → a ≤ 696 → mI m' a = mI m a) : RD m' j D G := by
  unfold RD at *
  rw [he 693 (by decide) (by decide), he 694 (by decide) (by decide), he 695 (by decide) (by decide), he 696 (by decide) (by decide)]
  exact h
theorem RV.fe {m m' : Mm} {L : Nat} {v : Nat → Lv} (h : RV m L v) (he : ∀ a, 690 ≤ a → a ≤ 696 → mI m' a = mI m a) (h0 : mI m' 668 31 = mI m 668 31) : RV m' L v := by
  refine ⟨h0.trans h.1, fun j hj => ⟨(h.2 j hj).1.fe2 (fun a a1 a2 => he a (by omega) a2), fun h1 => ?_⟩⟩
  rw [he 690 (by decide) (by decide), he 691 (by decide) (by decide), he 692 (by decide) (by decide)]
  exact (h.2 j hj).2 h1
/-- a state of another end has its memory -/
theorem RM.sE {m m' : Mm} {s : Ac} {e : Nat} (h : RM m s) (he : 2 ≤ e) (he5 : e ≠ 5) (h1 : mI m' 668 29 = nn e) (h2 : ∀ a, 693 ≤ a → a ≤ 696 → mI m' a = mI m a) : RM m' (sE s e) := ⟨h1, fun w => (he5 w).elim, h.2.2.1.fe2 h2, fun w => by
  have : e < 2 := w
  omega⟩
theorem s12_step {m : Mm} {s : Ac} (hm : St m) (h : RM m s) (hE : aE s = 0) (hS : aS s ≤ 100) : C m12_step [.ref 668] m (fun r m' => r = .inl none ∧ Fr (fun a j => a = 668 ∧ (j = 29 ∨ j = 30)) m m' ∧ RM m' (stepA s)) := by
  refine C.of (by decide +kernel) (Nat.le_of_ble_eq_true rfl) rfl (w12_step hm ?_)
  obtain ⟨f1, f2, f3, f4, f5, f6⟩ := h.2.2.2 (by omega)
  have e : nn (aS s) = 100 ↔ aS s = 100 := nn_eq (b := 100) (by omega) (by decide)
  rw [f6, e, nn_one]
  unfold stepA
  refine ⟨fun w => ?_, fun w => ?_⟩
  · rw [if_neg w]
    refine ⟨rfl, Fr.refl.set ⟨rfl, Or.inr rfl⟩, ?_, fun q => ?_, h.2.2.1.fe2 (fun a a1 a2 => mI_fn (by omega)), fun _ => ⟨f1.fe (fun a a1 a2 => mI_fn (by omega)) rfl, f2.fe rfl rfl, f3.fe (fun a a1 a2 => mI_fn (by omega)) rfl, f4, f5.fe2 rfl (fun a a1 a2 => mI_fn (by omega)), ?_⟩⟩
    · exact h.1
    · have q2 : aE s = 5 := q
      omega
    · rfl
  · rw [if_pos w]
    exact ⟨rfl, Fr.refl.set ⟨rfl, Or.inl rfl⟩, h.sE (by decide) (by decide) rfl (fun a a1 a2 => mI_fn (by omega))⟩
theorem RV.sd {m m' : Mm} {s : Ac} {o : Nat} {d : List (Nat × Nat)} {g : List Nat} (h : RV m (aL s) (aV s)) (hb : BD s) (ho : o ≤ aL s) (he : ∀ a, 690 ≤ a → a ≤ 692 → mI m' a = mI m a) (h0 : mI m' 668 31 = mI m 668 31) (hd : RD m' o d g) (h1 : ∀ j, j ≠ o → mI m' 693 j = mI m 693 j ∧ mI m' 694 j = mI m 694 j) (h2 : ∀ i, ¬ (41 * o ≤ i ∧ i < 41 * o + 40) → mI m' 695 i = mI m 695 i ∧ mI m' 696 i = mI m 696 i) : RV m' (aL s) (aV (setD s o d g)) := by
  refine ⟨h0.trans h.1, fun j hj => ⟨?_, fun j1 => ?_⟩⟩
  · show RD m' j (lD (up1 (aV s) o _ j)) (lG (up1 (aV s) o _ j))
    by_cases e : j = o
    · rw [e, up1_at]
      exact hd
    · rw [up1_ne e]
      exact (h.2 j hj).1.fe (hb.2.2.2.2.2.2.2.2 j hj).1 (h1 j e).1 (h1 j e).2 (fun i i1 i2 => h2 i (by omega))
  · show mI m' 690 j = nn (flatB (up1 (aV s) o _) j).length ∧ mI m' 691 j = nn (lX (up1 (aV s) o _ j)) ∧ mI m' 692 j = nn (lU (up1 (aV s) o _ j))
    rw [he 690 (by decide) (by decide), he 691 (by decide) (by decide), he 692 (by decide) (by decide)]
    have h3 := (h.2 j hj).2 j1
    rw [flatB_k (v := aV s) (fun i hi => ?_)]
    · by_cases e : j = o
      · subst e
        rw [up1_at]
        exact h3
      · rw [up1_ne e]
        exact h3
    · by_cases e : i = o
      · rw [e, up1_at]
      · rw [up1_ne e]
theorem RM.sd {m m' : Mm} {s : Ac} {o : Nat} {d : List (Nat × Nat)} {g : List Nat} (h : RM m s) (hE : aE s = 0) (hb : BD s) (ho : o ≤ aL s) (hf : ∀ a, (a < 693 ∨ 696 < a) → mI m' a = mI m a) (hd : RD m' o d g) (h1 : ∀ j, j ≠ o → mI m' 693 j = mI m 693 j ∧ mI m' 694 j = mI m 694 j) (h2 : ∀ i, ¬ (41 * o ≤ i ∧ i < 41 * o + 40) → mI m' 695 i = mI m 695 i ∧ mI m' 696 i = mI m 696 i) : RM m' (setD s o d g) := by
  obtain ⟨f1, f2, f3, f4, f5, f6⟩ := h.2.2.2 (by omega)
  have e8 : ∀ j, mI m' 668 j = mI m 668 j := fun j => by rw [hf 668 (by omega)]
  have hV := f3.sd hb ho (fun a a1 a2 => hf a (by omega)) (e8 31) hd h1 h2
  have hA : allK (setD s o d g) = allK s := flatB_k (fun j _ => by
    show lK (up1 (aV s) o _ j) = _
    by_cases e : j = o
    · rw [e, up1_at]
    · rw [up1_ne e])
  refine ⟨(e8 29).trans h.1, fun w => ?_, (hV.2 0 (Nat.zero_le _)).1, fun _ => ⟨f1.fe (fun a a1 a2 => hf a (by omega)) (e8 13), f2.fe (hf 685 (by omega)) (e8 22), hV, ?_, ?_, (e8 30).trans f6⟩⟩
  · have w2 : aE s = 5 := w
    omega
  · rw [hA]
    exact (e8 24).trans f4
  · rw [hA]
    exact f5.fe2 (hf 676 (by omega)) (fun a a1 a2 => hf a (by omega))
theorem s12_decide {m : Mm} {s : Ac} {o n : Nat} (hm : St m) (h : RM m s) (hE : aE s = 0) (hb : BD s) (ho : o ≤ aL s) : C m12_decide [.ref 668, .int (nn o), .int (nn n)] m (fun r m' => r = .inl (some (.int (nn (decA s o n).1))) ∧ Fr SR m m' ∧ RM m' (decA s o n).2) := by
  refine C.of (by decide +kernel) (Nat.le_of_ble_eq_true rfl) rfl (u12_decide hm ?_)
  obtain ⟨f1, f2, f3, f4, f5, f6⟩ := h.2.2.2 (by omega)
  have hL := hb.2.2.1
  obtain ⟨b1, b2, b3, b4⟩ := hb.2.2.2.2.2.2.2.2 o ho
  obtain ⟨⟨d1, d2, d3, d4⟩, -⟩ := f3.2 o ho
  have hi := nn_in (a := o) (n := 110) (by omega) (by omega)
  have e40 : nn (lD (aV s o)).length = 40 ↔ (lD (aV s o)).length = 40 := nn_eq (b := 40) (by omega) (by decide)
  have eg : nn (lD (aV s o)).length = nn ((lD (aV s o)).length + (lG (aV s o)).length) ↔ lG (aV s o) = [] := by
    rw [nn_eq (by omega) (by omega)]
    cases lG (aV s o) with
    | nil => simp
    | cons x l => simp
  have e0 : nn o = 0 ↔ o = 0 := nn_eq (b := 0) (by omega) (by decide)
  rw [nn_tn (by omega), d1, d2, e40, eg, e0, show (41 : Int32) * nn o = nn (41 * o) from nn_mul 41 o, nn_add]
  have h93 : ∀ (m1 : Mm) (w : Nat), St m1 → Fr SR m m1 → mI m1 694 o = nn (lD (aV s o)).length → mI m1 695 (41 * o + (lD (aV s o)).length) = nn w → (lD (aV s o)).length < 40 →
      (∀ m', m' = mSetI (mSetI m1 696 (41 * o + (lD (aV s o)).length) (nn n)) 694 o (nn ((lD (aV s o)).length + 1)) → (decA s o n).1 = w ∧ RM m' (decA s o n).2) →
      V m12_decide 93 [some (.ref 668), some (.int (nn o)), some (.int (nn n)), some (.int (nn (41 * o + (lD (aV s o)).length)))] [] m1 (fun r m' => r = .inl (some (.int (nn (decA s o n).1))) ∧ Fr SR m m' ∧ RM m' (decA s o n).2) := by
    intro m1 w s1 fr1 w1 w2 w3 w4
    refine u12_decide_93 s1 ?_
    rw [nn_tn (by omega), nn_tn (by omega), w1, w2, nn_one]
    have hj := nn_in (a := 41 * o + (lD (aV s o)).length) (n := 4510) (by omega) (by omega)
    obtain ⟨q1, q2⟩ := w4 _ rfl
    exact ⟨hj, hi, hi, hj, by rw [q1], (fr1.set (Or.inl (by omega))).set (Or.inl (by omega)), q2⟩
  refine ⟨hi, hi, fun w40 => ⟨hi, hi, fun wg => ?_, fun wg => ⟨fun w0 => ?_, fun w0 => ?_⟩⟩, fun w40 => ?_⟩
  · refine u12_decide_61 hm ?_
    rw [nn_tn (by omega), d1, d2, eg]
    refine ⟨hi, hi, fun _ => ?_, fun w => (wg w).elim⟩
    cases hg : lG (aV s o) with
    | nil => exact (wg hg).elim
    | cons w r =>
      have hd : decA s o n = (w, setD s o ((w, n) :: lD (aV s o)) r) := by
        unfold decA
        rw [if_neg w40, hg]
      rw [hg, List.length_cons] at b1 d2
      refine h93 m w hm Fr.refl d1 (d4 0 w (by rw [hg]; rfl)) (by omega) (fun m' hm' => ?_)
      subst hm'
      rw [hd]
      refine ⟨rfl, h.sd hE hb ho (fun a ha => by rw [mI_fn (by omega), mI_fn (by omega)]) ⟨?_, ?_, fun i d hi2 => ?_, fun i x hx => ?_⟩ (fun j hj => by simp [mI_set, hj]) (fun i hi2 => by simp [mI_set]; omega)⟩
      · simp [mI_set]
      · simp [mI_set]
        rw [d2]
        congr 1
        omega
      · simp only [List.reverse_cons] at hi2
        by_cases e : i < (lD (aV s o)).length
        · rw [List.getElem?_append_left (by rw [List.length_reverse]; exact e)] at hi2
          rw [mI_set, if_neg (by omega), mI_set, if_neg (by omega), mI_set, if_neg (by omega), mI_set, if_neg (by omega)]
          exact d3 i d hi2
        · have hl := (List.getElem?_eq_some_iff.mp hi2).1
          simp only [List.length_append, List.length_reverse, List.length_singleton] at hl
          obtain rfl : i = (lD (aV s o)).length := by omega
          rw [List.getElem?_append_right (by rw [List.length_reverse]; exact Nat.le_refl _), List.length_reverse, Nat.sub_self] at hi2
          cases hi2
          rw [mI_set, if_neg (by omega), mI_set, if_neg (by omega), mI_set, if_neg (by omega), mI_set, if_pos ⟨rfl, rfl⟩]
          exact ⟨d4 0 w (by rw [hg]; rfl), rfl⟩
      · rw [mI_set, if_neg (by omega), mI_set, if_neg (by omega)]
        have := d4 (i + 1) x (by rw [hg]; exact hx)
        rw [← this]
        congr 1
        simp only [List.length_cons]
        omega
  · have hd : decA s o n = (0, setD s o ((0, n) :: lD (aV s o)) []) := by
      unfold decA
      rw [if_neg w40, wg]
      exact if_neg w0
    rw [wg] at b1 d2
    simp only [List.length_nil, Nat.add_zero] at b1 d2
    refine u12_decide_61 hm ?_
    rw [nn_tn (by omega), nn_tn (by omega), d1, d2, nn_one]
    have hj := nn_in (a := 41 * o + (lD (aV s o)).length) (n := 4510) (by omega) (by omega)
    refine ⟨hi, hi, fun w => (w rfl).elim, fun _ => ⟨hj, hi, hi, ?_⟩⟩
    refine h93 _ 0 (St.i (St.i hm)) ((Fr.refl.set (Or.inl (by omega))).set (Or.inl (by omega))) (by simp [mI_set]; exact d1) (by simp [mI_set]; rfl) (by omega) (fun m' hm' => ?_)
    subst hm'
    rw [hd]
    refine ⟨rfl, h.sd hE hb ho (fun a ha => by rw [mI_fn (by omega), mI_fn (by omega), mI_fn (by omega), mI_fn (by omega)]) ⟨?_, ?_, fun i d hi2 => ?_, fun i x hx => by cases hx⟩ (fun j hj => by simp [mI_set, hj]) (fun i hi2 => by simp [mI_set]; omega)⟩
    · simp [mI_set]
    · simp [mI_set]
    · simp only [List.reverse_cons] at hi2
      by_cases e : i < (lD (aV s o)).length
      · rw [List.getElem?_append_left (by rw [List.length_reverse]; exact e)] at hi2
        simp only [mI_set]
        rw [if_neg (by omega), if_neg (by omega), if_neg (by omega), if_neg (by omega), if_neg (by omega), if_neg (by omega), if_neg (by omega), if_neg (by omega)]
        exact d3 i d hi2
      · have hl := (List.getElem?_eq_some_iff.mp hi2).1
        simp only [List.length_append, List.length_reverse, List.length_singleton] at hl
        obtain rfl : i = (lD (aV s o)).length := by omega
        rw [List.getElem?_append_right (by rw [List.length_reverse]; exact Nat.le_refl _), List.length_reverse, Nat.sub_self] at hi2
        cases hi2
        simp [mI_set]
        rfl
  · have hd : decA s o n = (0, sB s 5 n) := by
      unfold decA
      rw [if_neg w40, wg]
      exact if_pos w0
    rw [hd]
    refine ⟨rfl, (Fr.refl.set (Or.inr ⟨rfl, by omega⟩)).set (Or.inr ⟨rfl, by omega⟩), rfl, fun _ => rfl, h.2.2.1.fe2 (fun a a1 a2 => by rw [mI_fn (by omega), mI_fn (by omega)]), fun w => ?_⟩
    have : (5 : Nat) < 2 := w
    omega
  · have hd : decA s o n = (0, sE s 4) := by
      unfold decA
      rw [if_pos w40]
    rw [hd]
    exact ⟨rfl, Fr.refl.set (Or.inr ⟨rfl, by omega⟩), h.sE (by decide) (by decide) rfl (fun a a1 a2 => mI_fn (by omega))⟩
