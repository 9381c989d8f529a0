/-! THE OTHER ONE: a row more -/
/-- the rows that are left -/
def LFm (m : Mm) (left : List Nat) (st : Nat) : Prop := mI m 541 8 = nn st ∧ mI m 541 9 = nn (st + left.length) ∧ st + left.length ≤ 4801 ∧ ∀ i r, left[i]? = some r → mI m 547 (st + i) = nn r
theorem s8_addRow {m : Mm} {rows : List (List Nat)} {left : List Nat} {st o x : Nat} {ws : List Nat} (hm : St m) (h : RWm m rows) (hl : LFm m left st) (h40 : ws.length ≤ 40) (hx : ∀ y, y ∈ ws → y < 100) (hp : ∀ us y, ws = us ++ [y] → y = x ∧ rows[o]? = some us) (hr : rows.length < 4801) (he : st + left.length < 4801) : C m8_addRow [.ref 541, .int (nn o), .int (nn x), .int (nn ws.length)] m (fun z m' => z = .inl none ∧ Fr (fun a j => (544 ≤ a ∧ a ≤ 547) ∨ (a = 541 ∧ (j = 6 ∨ j = 9))) m m' ∧ RWm m' (rows ++ [ws]) ∧ LFm m' (left ++ [rows.length]) st) := by
  refine C.of (by decide +kernel) (Nat.le_of_ble_eq_true rfl) rfl (w8_addRow hm ?_)
  obtain ⟨h1, h2, h3⟩ := h
  obtain ⟨l1, l2, l3, l4⟩ := hl
  have m1 : 4801 ≤ nn rows.length ↔ 4801 ≤ rows.length := nn_le (a := 4801) (by decide) (by omega)
  have m2 : 4801 ≤ nn (st + left.length) ↔ 4801 ≤ st + left.length := nn_le (a := 4801) (by decide) (by omega)
  have v1 := nn_in (a := rows.length) (n := 4801) (by omega) hr
  have v2 := nn_in (a := st + left.length) (n := 4801) (by omega) he
  rw [h1, l2, m1, m2, nn_tn (a := rows.length) (by omega), nn_tn (a := st + left.length) (by omega), nn_one, nn_one]
  refine ⟨fun q => by omega, fun _ => ⟨fun q => by omega, fun _ => ⟨v1, v1, v1, v2, rfl, ?_, ⟨?_, ?_, fun r ws' hr' => ?_⟩, ?_, ?_, ?_, fun i r hi => ?_⟩⟩⟩
  · exact (((((Fr.refl.set (by omega)).set (by omega)).set (by omega)).set (by omega)).set (by omega)).set (by omega)
  · rw [List.length_append, List.length_singleton, mI_set, if_neg (by omega), mI_set, if_pos ⟨rfl, rfl⟩]
  · rw [List.length_append, List.length_singleton]
    omega
  · by_cases e : r < rows.length
    · rw [List.getElem?_append_left e] at hr'
      obtain ⟨a1, a2, a3, a4⟩ := h3 r ws' hr'
      refine ⟨?_, a2, a3, fun us y hu => ?_⟩
      · simp only [mI_set]
        rw [if_neg (by omega), if_neg (by omega), if_neg (by omega), if_neg (by omega), if_neg (by omega), if_neg (by omega)]
        exact a1
      · obtain ⟨o', c1, c2, c3, c4⟩ := a4 us y hu
        refine ⟨o', c1, ?_, ?_, by rw [List.getElem?_append_left (List.getElem?_eq_some_iff.mp c4).1]; exact c4⟩
        · simp only [mI_set]
          rw [if_neg (by omega), if_neg (by omega), if_neg (by omega), if_neg (by omega), if_neg (by omega), if_neg (by omega)]
          exact c2
        · simp only [mI_set]
          rw [if_neg (by omega), if_neg (by omega), if_neg (by omega), if_neg (by omega), if_neg (by omega), if_neg (by omega)]
          exact c3
    · have hl := (List.getElem?_eq_some_iff.mp hr').1
      rw [List.length_append, List.length_singleton] at hl
      obtain rfl : r = rows.length := by omega
      rw [List.getElem?_append_right (Nat.le_refl _), Nat.sub_self] at hr'
      cases hr'
      refine ⟨?_, h40, hx, fun us y hu => ?_⟩
      · simp [mI_set]
      · obtain ⟨q1, q2⟩ := hp us y hu
        have ho := (List.getElem?_eq_some_iff.mp q2).1
        refine ⟨o, ho, ?_, ?_, by rw [List.getElem?_append_left ho]; exact q2⟩
        · simp [mI_set]
        · rw [q1]
          simp [mI_set]
  · simp only [mI_set]
    rw [if_neg (by omega), if_neg (by omega), if_neg (by omega), if_neg (by omega), if_neg (by omega), if_neg (by omega)]
    exact l1
  · rw [List.length_append, List.length_singleton, mI_set, if_pos ⟨rfl, rfl⟩, Nat.add_assoc]
  · rw [List.length_append, List.length_singleton]
    omega
  · by_cases e : i < left.length
    · rw [List.getElem?_append_left e] at hi
      simp only [mI_set]
      rw [if_neg (by omega), if_neg (by omega), if_neg (by omega), if_neg (by omega), if_neg (by omega), if_neg (by omega)]
      exact l4 i r hi
    · have hil := (List.getElem?_eq_some_iff.mp hi).1
      rw [List.length_append, List.length_singleton] at hil
      obtain rfl : i = left.length := by omega
      rw [List.getElem?_append_right (Nat.le_refl _), Nat.sub_self] at hi
      cases hi
      simp [mI_set]
