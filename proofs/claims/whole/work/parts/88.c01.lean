/-! THE OTHER ONE: rows of ways -/
/-- rows, each told by the one that it goes on from and its last way -/
def RWm (m : Mm) (rows : List (List Nat)) : Prop := mI m 541 6 = nn rows.length ∧ rows.length ≤ 4801 ∧ ∀ r ws, rows[r]? = some ws → mI m 546 r = nn ws.length ∧ ws.length ≤ 40 ∧ (∀ x, x ∈ ws → x < 100) ∧ ∀ us x, ws = us ++ [x] → ∃ o, o < r ∧ mI m 544 r = nn o ∧ mI m 545 r = nn x ∧ rows[o]? = some us
theorem s8_giveWays {m : Mm} {rows : List (List Nat)} {r : Nat} {ws : List Nat} (hm : St m) (h : RWm m rows) (hr : rows[r]? = some ws) : C m8_giveWays [.ref 541, .int (nn r)] m (fun z m' => z = .inl none ∧ Fr (fun a j => (a = 235 ∧ j = 2) ∨ a = 236) m m' ∧ WQ m' ws) := by
  refine C.of (by decide +kernel) (Nat.le_of_ble_eq_true rfl) rfl (w8_giveWays hm ?_)
  obtain ⟨h1, h2, h3⟩ := h
  have hrl := (List.getElem?_eq_some_iff.mp hr).1
  obtain ⟨a1, a2, a3, a4⟩ := h3 r ws hr
  have hv := nn_in (a := r) (n := 4801) (by omega) (by omega)
  have l40 : 40 ≤ nn ws.length ↔ 40 ≤ ws.length := nn_le (a := 40) (by decide) (by omega)
  rw [nn_tn (a := r) (by omega), a1, l40]
  have loop : ∀ (k o : Nat) (us : List Nat) (M : Mm), us.length = k → k ≤ ws.length → rows[o]? = some us → (∀ (i x : Nat), us[i]? = some x → ws[i]? = some x) → St M → Fr (fun a j => (a = 235 ∧ j = 2) ∨ a = 236) m M → mI M 235 2 = nn ws.length → (∀ (i x : Nat), k ≤ i → ws[i]? = some x → mI M 236 i = nn x) → V m8_giveWays 44 [some (.ref 541), some (.int (nn r)), some (.ref (235 + 3 * 0)), some (.int (nn o)), some (.int (nn k - 1))] [] M (fun z m' => z = .inl none ∧ Fr (fun a j => (a = 235 ∧ j = 2) ∨ a = 236) m m' ∧ WQ m' ws) := by
    intro k
    induction k with
    | zero =>
      intro o us M hl hk ho hu sM fr hg hset
      refine w8_giveWays_44 sM (by decide) ⟨fun _ => ⟨rfl, fr, hg, a2, fun i x hx => hset i x (Nat.zero_le _) hx, a3⟩, fun w => absurd (by decide) w⟩
    | succ k ih =>
      intro o us M hl hk ho hu sM fr hg hset
      have hne : us ≠ [] := fun q => by rw [q] at hl; cases hl
      obtain ⟨us', x, rfl⟩ : ∃ us' x, us = us' ++ [x] := ⟨us.dropLast, us.getLast hne, (List.dropLast_concat_getLast hne).symm⟩
      rw [List.length_append, List.length_singleton] at hl
      have hl : us'.length = k := by omega
      have hol := (List.getElem?_eq_some_iff.mp ho).1
      obtain ⟨b1, b2, b3, b4⟩ := h3 o _ ho
      obtain ⟨o', c1, c2, c3, c4⟩ := b4 us' x rfl
      have hvo := nn_in (a := o) (n := 4801) (by omega) (by omega)
      have ng : ∀ k, k < 40 → ¬ nn k < 0 := by decide +kernel
      have hp : nn (k + 1) - 1 = nn k := nn_pred (by omega)
      have hp2 : nn k + (-1) = nn k - 1 := by rw [Int32.sub_eq_add_neg]
      refine w8_giveWays_44 sM (by decide) ?_
      rw [hp, hp2, nn_tn (a := o) (by omega), nn_tn (a := k) (by omega), show mI (mSetI M (236 + 3 * 0) k (mI M 545 o)) 544 o = nn o' by
        rw [mI_set, if_neg (by omega), fr.i (by omega)]
        exact c2, show mI M 545 o = nn x by
        rw [fr.i (by omega)]
        exact c3]
      refine ⟨fun q => (ng k (by omega) q).elim, fun _ => ⟨hvo, nn_in (by omega) (by omega), hvo, ?_⟩⟩
      have hx : ws[k]? = some x := hu k x (by rw [List.getElem?_append_right (by omega), hl, Nat.sub_self]; rfl)
      refine ih o' us' _ hl (by omega) c4 (fun i y hy => hu i y (by rw [List.getElem?_append_left (List.getElem?_eq_some_iff.mp hy).1]; exact hy)) (St.i sM) (fr.set (Or.inr rfl)) hg (fun i y hi hy => ?_)
      rw [mI_set]
      by_cases e : i = k
      · rw [if_pos ⟨rfl, e⟩]
        rw [e, hx] at hy
        cases hy
        rfl
      · rw [if_neg (by omega)]
        exact hset i y (by omega) hy
  refine ⟨hv, fun q => ?_, fun q => ⟨hv, ?_⟩⟩
  · have := loop ws.length r ws (mSetI m (235 + 3 * 0) 2 40) rfl (Nat.le_refl _) hr (fun i x hx => hx) (St.i hm) (Fr.refl.set (Or.inl ⟨rfl, rfl⟩)) (by
      rw [show ws.length = 40 by omega]
      rfl) (fun i x hi hx => by have := (List.getElem?_eq_some_iff.mp hx).1; omega)
    rw [show ws.length = 40 by omega] at this
    exact this
  · exact loop ws.length r ws (mSetI m (235 + 3 * 0) 2 (nn ws.length)) rfl (Nat.le_refl _) hr (fun i x hx => hx) (St.i hm) (Fr.refl.set (Or.inl ⟨rfl, rfl⟩)) rfl (fun i x hi hx => by have := (List.getElem?_eq_some_iff.mp hx).1; omega)
