/-! THE OTHER ONE: on to the next ways of the lowest run -/
theorem s2_advance0 {m : Mm} {D : List (Nat × Nat)} {G : List Nat} (hm : St m) (h : HR m 0 D G) (hl : D.length ≤ 40) (hw : ∀ d, d ∈ D → d.1 < d.2 ∧ d.2 < 100) : C m2_advance [.ref 235] m (fun z m' => Fr (fun a j => (a = 235 ∧ j = 2) ∨ a = 236) m m' ∧ ((backA D = [] ∧ z = .inl (some (.int 0))) ∨ ∃ w n r', backA D = (w, n) :: r' ∧ z = .inl (some (.int 1)) ∧ WQ m' ((r'.map (fun d => d.1)).reverse ++ [w + 1]))) := by
  obtain ⟨gv, h1, h2, h3, h4, h5, h6⟩ := h
  refine C.mono (s2_advance (o := 0) (D := D) hm (by decide) h4 hl h5 hw) ?_
  rintro z m' (⟨q1, rfl, rfl⟩ | ⟨w, n, r', q1, rfl, rfl, q2, pre, q3⟩)
  · exact ⟨Fr.refl, Or.inl ⟨q1, rfl⟩⟩
  · have hwn := hw (w, n) (by rw [q3]; exact List.mem_append_right _ List.mem_cons_self)
    have hlt : w + 1 < 100 := by
      have h1 : w < n := hwn.1
      have h2 : n < 100 := hwn.2
      omega
    have hlen : ((r'.map (fun d => d.1)).reverse ++ [w + 1]).length = r'.length + 1 := by simp
    refine ⟨(Fr.refl.set (Or.inr rfl)).set (Or.inl ⟨rfl, rfl⟩), Or.inr ⟨w, n, r', q1, rfl, ?_, by rw [hlen]; omega, fun i x hi => ?_, fun x hx => ?_⟩⟩
    · rw [hlen]
      rfl
    · rw [mI_set, if_neg (by omega), mI_set]
      by_cases e : i < r'.length
      · rw [if_neg (by omega)]
        rw [List.getElem?_append_left (by simpa using e)] at hi
        rw [List.getElem?_reverse (by simpa using e), List.length_map, List.getElem?_map] at hi
        cases hd : r'[r'.length - 1 - i]? with
        | none =>
          rw [hd] at hi
          cases hi
        | some d =>
          rw [hd] at hi
          cases hi
          refine (h5 i d ?_).1
          rw [q3, List.reverse_append, List.reverse_cons, List.append_assoc, List.getElem?_append_left (by simpa using e), List.getElem?_reverse e]
          exact hd
      · have hil := (List.getElem?_eq_some_iff.mp hi).1
        rw [hlen] at hil
        obtain rfl : i = r'.length := by omega
        rw [List.getElem?_append_right (by simp)] at hi
        simp at hi
        rw [if_pos ⟨rfl, rfl⟩, hi]
    · rcases List.mem_append.mp hx with q | q
      · rw [List.mem_reverse, List.mem_map] at q
        obtain ⟨d, d1, d2⟩ := q
        have := hw d (by rw [q3]; exact List.mem_append_right _ (List.mem_cons_of_mem _ d1))
        omega
      · rw [List.mem_singleton.mp q]
        exact hlt
