/-! THE OTHER ONE: rows for all ways of a branch -/
/-- the i-th row that is added: us and a way -/
def brW (o n : Nat) (us : List Nat) (i : Nat) : List Nat := us ++ [if o = 0 then n - 1 - i else i]
theorem s8_addBranches {m : Mm} {rows : List (List Nat)} {left : List Nat} {st r o n : Nat} {us : List Nat} (hm : St m) (h : RWm m rows) (hl : LFm m left st) (hb : mI m 12 13 = nn n) (hn : n < 100) (ho : o < 1000) (hr : rows[r]? = some us) (h40 : us.length < 40) (r1 : rows.length + n ≤ 4801) (r2 : st + left.length + n ≤ 4801) : C m8_addBranches [.ref 541, .int (nn r), .int (nn o)] m (fun z m' => z = .inl none ∧ Fr (fun a j => (544 ≤ a ∧ a ≤ 547) ∨ (a = 541 ∧ (j = 6 ∨ j = 9))) m m' ∧ RWm m' (rows ++ (List.range n).map (brW o n us)) ∧ LFm m' (left ++ (List.range n).map (fun i => rows.length + i)) st) := by
  refine C.of (by decide +kernel) (Nat.le_of_ble_eq_true rfl) rfl (w8_addBranches hm ?_)
  rw [hb]
  have hrl := (List.getElem?_eq_some_iff.mp hr).1
  have e0 : nn o = 0 ↔ o = 0 := nn_eq (b := 0) (by omega) (by decide)
  have hus : ∀ x, x ∈ us → x < 100 := (h.2.2 r us hr).2.2.1
  have loop : ∀ (d k : Nat) (M : Mm), k + d = n → St M → Fr (fun a j => (544 ≤ a ∧ a ≤ 547) ∨ (a = 541 ∧ (j = 6 ∨ j = 9))) m M → RWm M (rows ++ (List.range k).map (brW o n us)) → LFm M (left ++ (List.range k).map (fun i => rows.length + i)) st → V m8_addBranches 11 [some (.ref 541), some (.int (nn r)), some (.int (nn o)), some (.int (nn n)), some (.int (nn k))] [] M (fun z m' => z = .inl none ∧ Fr (fun a j => (544 ≤ a ∧ a ≤ 547) ∨ (a = 541 ∧ (j = 6 ∨ j = 9))) m m' ∧ RWm m' (rows ++ (List.range n).map (brW o n us)) ∧ LFm m' (left ++ (List.range n).map (fun i => rows.length + i)) st) := by
    intro d
    induction d with
    | zero =>
      intro k M hk sM fr hR hL
      obtain rfl : k = n := by omega
      exact w8_addBranches_11 sM ⟨fun _ => ⟨rfl, fr, hR, hL⟩, fun q => (q (Int32.le_refl _)).elim⟩
    | succ d ih =>
      intro k M hk sM fr hR hL
      have l1 : nn n ≤ nn k ↔ n ≤ k := nn_le (by omega) (by omega)
      have hv := nn_in (a := r) (n := 4801) (by omega) (by omega)
      have hrM : (rows ++ (List.range k).map (brW o n us))[r]? = some us := by
        rw [List.getElem?_append_left hrl]
        exact hr
      have h546 : mI M 546 r = nn us.length := (hR.2.2 r us hrM).1
      have lenR : (rows ++ (List.range k).map (brW o n us)).length = rows.length + k := by rw [List.length_append, List.length_map, List.length_range]
      have lenL : (left ++ (List.range k).map (fun i => rows.length + i)).length = left.length + k := by rw [List.length_append, List.length_map, List.length_range]
      have step : ∀ x, (brW o n us k) = us ++ [x] → x < 100 → C m8_addRow [.ref 541, .int (nn r), .int (nn x), .int (nn (us.length + 1))] M (fun o' m4 => o' = .inl none ∧ St m4 ∧ V m8_addBranches 11 [some (.ref 541), some (.int (nn r)), some (.int (nn o)), some (.int (nn n)), some (.int (nn k + 1))] [] m4 (fun z m' => z = .inl none ∧ Fr (fun a j => (544 ≤ a ∧ a ≤ 547) ∨ (a = 541 ∧ (j = 6 ∨ j = 9))) m m' ∧ RWm m' (rows ++ (List.range n).map (brW o n us)) ∧ LFm m' (left ++ (List.range n).map (fun i => rows.length + i)) st)) := by
        intro x hx hx100
        have hlen : (us ++ [x]).length = us.length + 1 := by rw [List.length_append, List.length_singleton]
        have key := s8_addRow (o := r) (x := x) (ws := us ++ [x]) sM hR hL (by omega) (fun y hy => by
          rcases List.mem_append.mp hy with q | q
          · exact hus y q
          · rw [List.mem_singleton.mp q]
            exact hx100) (fun us' y hu => by
          have h1 := List.append_inj' hu rfl
          refine ⟨(List.singleton_inj.mp h1.2).symm, ?_⟩
          rw [← h1.1]
          exact hrM) (by omega) (by omega)
        rw [hlen] at key
        refine C.mono key ?_
        rintro z m4 ⟨rfl, fr4, R4, L4⟩
        have s4 := fr4.st sM
        refine ⟨rfl, s4, ?_⟩
        rw [nn_one]
        refine ih (k + 1) m4 (by omega) s4 (fr.trans fr4) ?_ ?_
        · rw [List.range_succ, List.map_append, ← List.append_assoc]
          show RWm m4 (_ ++ [brW o n us k])
          rw [hx]
          exact R4
        · rw [List.range_succ, List.map_append, ← List.append_assoc]
          show LFm m4 (_ ++ [rows.length + k]) st
          rw [lenR] at L4
          exact L4
      refine w8_addBranches_11 sM ?_
      rw [l1, e0, nn_tn (a := r) (by omega), h546, show (nn us.length + 1 : Int32) = nn (us.length + 1) from nn_one _, show (nn n - 1 : Int32) = nn (n - 1) from nn_pred (by omega), nn_sub (show k ≤ n - 1 by omega)]
      refine ⟨fun q => by omega, fun _ => ⟨fun w => ⟨hv, step k (by unfold brW; rw [if_neg w]) (by omega)⟩, fun w => ⟨hv, step (n - 1 - k) (by unfold brW; rw [if_pos w]) (by omega)⟩⟩⟩
  have := loop n 0 m (by omega) hm Fr.refl (by simpa using h) (by simpa using hl)
  exact this
