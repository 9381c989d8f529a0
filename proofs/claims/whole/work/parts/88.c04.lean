/-! THE OTHER ONE: a row is taken -/
theorem mI_cpy {m : Mm} {a sp dp n b j : Nat} : mI (mCpy m a sp dp n) b j = if b = a ∧ dp ≤ j ∧ j < dp + n then mI m a (sp + (j - dp)) else mI m b j := by
  show (if b = a then va_cpy (mI m a) (mI m a) sp dp n else mI m b) j = _
  by_cases e : b = a
  · rw [if_pos e, e]
    unfold va_cpy
    by_cases q : dp ≤ j ∧ j < dp + n
    · rw [if_pos q, if_pos ⟨rfl, q⟩]
    · rw [if_neg q, if_neg (fun w => q w.2)]
  · rw [if_neg e, if_neg (fun w => e w.1)]
theorem s8_takeRow {m : Mm} {rows : List (List Nat)} {left : List Nat} {st k r : Nat} (hm : St m) (h : RWm m rows) (hl : LFm m left st) (hk : left[k]? = some r) : C m8_takeRow [.ref 541, .int (nn k)] m (fun z m' => z = .inl (some (.int (nn r))) ∧ Fr (fun a j => a = 547 ∨ (a = 541 ∧ (j = 8 ∨ j = 9))) m m' ∧ RWm m' rows ∧ LFm m' (left.eraseIdx k) (if k = 0 then st + 1 else st)) := by
  refine C.of (by decide +kernel) (Nat.le_of_ble_eq_true rfl) rfl (w8_takeRow hm ?_)
  obtain ⟨l1, l2, l3, l4⟩ := hl
  have hkl := (List.getElem?_eq_some_iff.mp hk).1
  have e0 : nn k = 0 ↔ k = 0 := nn_eq (b := 0) (by omega) (by decide)
  have elen : (left.eraseIdx k).length = left.length - 1 := by rw [List.length_eraseIdx, if_pos hkl]
  have s1 : nn (st + left.length) - nn (st + k) = nn (left.length - k) := by
    rw [nn_sub (by omega)]
    congr 1
    omega
  have s2 : nn (left.length - k) - 1 = nn (left.length - k - 1) := nn_pred (by omega)
  have ng : ∀ i, i < 2147483648 → ¬ nn i < 0 := fun i hi => by
    have : nn i < nn 0 ↔ i < 0 := nn_lt hi (by decide)
    intro q
    have := this.mp q
    omega
  have frR : ∀ {m' : Mm}, Fr (fun a j => a = 547 ∨ (a = 541 ∧ (j = 8 ∨ j = 9))) m m' → RWm m' rows := fun {m'} f => ⟨(f.i (by omega)).trans h.1, h.2.1, fun r ws hr => by
    obtain ⟨a1, a2, a3, a4⟩ := h.2.2 r ws hr
    refine ⟨(f.i (by omega)).trans a1, a2, a3, fun us x hu => ?_⟩
    obtain ⟨o, c1, c2, c3, c4⟩ := a4 us x hu
    exact ⟨o, c1, (f.i (by omega)).trans c2, (f.i (by omega)).trans c3, c4⟩⟩
  rw [l1, l2, nn_add, e0, nn_one, s1, s2, nn_tn (a := st + k) (by omega), nn_tn (a := st + k + 1) (by omega), nn_tn (a := left.length - k - 1) (by omega), l4 k r hk]
  refine ⟨nn_in (by omega) (by omega), fun w => ⟨⟨ng _ (by omega), ng _ (by omega), ng _ (by omega), by omega, by omega⟩, rfl, ?_⟩, fun w => ⟨rfl, ?_⟩⟩
  · have e9 : mI (mCpy m 547 (st + k + 1) (st + k) (left.length - k - 1)) 541 9 = nn (st + left.length) := by
      rw [mI_cpy, if_neg (by omega)]
      exact l2
    rw [e9, nn_pred (by omega)]
    have fr : Fr (fun a j => a = 547 ∨ (a = 541 ∧ (j = 8 ∨ j = 9))) m (mSetI (mCpy m 547 (st + k + 1) (st + k) (left.length - k - 1)) 541 9 (nn (st + left.length - 1))) := by
      refine Fr.set (m1 := mCpy m 547 (st + k + 1) (st + k) (left.length - k - 1)) ⟨rfl, rfl, rfl, rfl, rfl, fun a j hs => ?_⟩ (by omega)
      rw [mI_cpy, if_neg (fun q => hs (Or.inl q.1))]
    refine ⟨fr, frR fr, ?_⟩
    rw [if_neg w]
    refine ⟨?_, ?_, by omega, fun i x hi => ?_⟩
    · rw [mI_set, if_neg (by omega), mI_cpy, if_neg (by omega)]
      exact l1
    · rw [mI_set, if_pos ⟨rfl, rfl⟩, elen]
      congr 1
      omega
    · have hil := (List.getElem?_eq_some_iff.mp hi).1
      rw [elen] at hil
      rw [mI_set, if_neg (by omega), mI_cpy]
      rw [List.getElem?_eraseIdx] at hi
      by_cases q : i < k
      · rw [if_pos q] at hi
        rw [if_neg (by omega)]
        exact l4 i x hi
      · rw [if_neg q] at hi
        rw [if_pos (by omega), show st + k + 1 + (st + i - (st + k)) = st + (i + 1) by omega]
        exact l4 (i + 1) x hi
  · subst w
    rw [show (nn st + 1 : Int32) = nn (st + 1) from nn_one _]
    have fr : Fr (fun a j => a = 547 ∨ (a = 541 ∧ (j = 8 ∨ j = 9))) m (mSetI m 541 8 (nn (st + 1))) := Fr.refl.set (by omega)
    refine ⟨fr, frR fr, ?_⟩
    rw [if_pos rfl]
    refine ⟨?_, ?_, by omega, fun i x hi => ?_⟩
    · rw [mI_set, if_pos ⟨rfl, rfl⟩]
    · rw [mI_set, if_neg (by omega), l2, elen]
      congr 1
      omega
    · rw [mI_set, if_neg (by omega)]
      rw [List.getElem?_eraseIdx, if_neg (by omega)] at hi
      rw [show st + 1 + i = st + (i + 1) by omega]
      exact l4 (i + 1) x hi
