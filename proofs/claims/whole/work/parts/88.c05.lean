/-! THE OTHER ONE: one decision more is given -/
theorem s2_deepen0 {m : Mm} {ws : List Nat} (hm : St m) (h : WQ m ws) (hl : ws.length < 40) : C m2_deepen [.ref 235] m (fun z m' => z = .inl none ∧ Fr (fun a j => (a = 235 ∧ j = 2) ∨ a = 236) m m' ∧ WQ m' (ws ++ [0])) := by
  refine C.of (by decide +kernel) (Nat.le_of_ble_eq_true rfl) rfl (w2_deepen (i0 := 0) hm (by decide) ?_)
  obtain ⟨h1, h2, h3, h4⟩ := h
  have h1' : mI m (235 + 3 * 0) 2 = nn ws.length := h1
  have l40 : 40 ≤ nn ws.length ↔ 40 ≤ ws.length := nn_le (a := 40) (by decide) (by omega)
  have e2 : mI (mSetI m (236 + 3 * 0) ws.length 0) (235 + 3 * 0) 2 = nn ws.length := by
    rw [mI_set, if_neg (by omega)]
    exact h1
  rw [h1', l40, nn_tn (a := ws.length) (by omega), e2, nn_one]
  refine ⟨fun q => by omega, fun _ => ⟨nn_in (by omega) hl, rfl, (Fr.refl.set (Or.inr rfl)).set (Or.inl ⟨rfl, rfl⟩), ?_, ?_, fun i x hi => ?_, fun x hx => ?_⟩⟩
  · rw [mI_set, if_pos ⟨rfl, rfl⟩, List.length_append, List.length_singleton]
  · rw [List.length_append, List.length_singleton]
    omega
  · rw [mI_set, if_neg (by omega), mI_set]
    by_cases e : i < ws.length
    · rw [List.getElem?_append_left e] at hi
      rw [if_neg (by omega)]
      exact h3 i x hi
    · have hil := (List.getElem?_eq_some_iff.mp hi).1
      rw [List.length_append, List.length_singleton] at hil
      obtain rfl : i = ws.length := by omega
      rw [List.getElem?_append_right (Nat.le_refl _), Nat.sub_self] at hi
      cases hi
      rw [if_pos ⟨rfl, rfl⟩]
      rfl
  · rcases List.mem_append.mp hx with q | q
    · exact h4 x q
    · rw [List.mem_singleton.mp q]
      decide
