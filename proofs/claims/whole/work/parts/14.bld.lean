/-! THE STATIC CELLS WHILE THEY ARE MADE -/
def dirty (a : Nat) : Bool := a == 12 || (decide (235 ≤ a) && decide (a < 541) && (a - 235) % 3 == 0)
/-- k cells are made; g: which references may still be unset -/
def Bld (k : Nat) (g : Nat → Nat → Prop) (c z : Nat) (m : Mm) : Prop :=
  mN m = k ∧ mC m = c ∧ mZ m = z ∧ (∀ a, a < k → mS m a = shp a) ∧ (∀ a, a < k → dirty a = false → ∀ j, mI m a j = 0) ∧ (∀ a, a < k → ∀ j, mR m a j = stR a j ∨ (g a j ∧ mR m a j = none))
section Bld
variable {k c z : Nat} {g : Nat → Nat → Prop} {m : Mm}
theorem Bld.kd {a : Nat} (h : Bld k g c z m) (ha : a < k) : mS m a = shp a := h.2.2.2.1 a ha
theorem Bld.get {a j b : Nat} (h : Bld k g c z m) (hs : stR a j = some b) (hg : ¬ g a j) (ha : a < k) : mR m a j = some b := by
  rcases h.2.2.2.2.2 a ha j with q | q
  · exact q.trans hs
  · exact (hg q.1).elim
theorem Bld.new {kd len zz : Nat} {g' : Nat → Nat → Prop} (h : Bld k g c z m) (hs : shp k = (kd, len)) (hg : ∀ a j, g a j → g' a j) (hk : ∀ j, stR k j = none ∨ g' k j) : Bld (k + 1) g' (c + 1) (z + zz) (mNew m kd len zz) := by
  obtain ⟨rfl, rfl, rfl, h4, h5, h6⟩ := h
  refine ⟨rfl, rfl, rfl, fun a ha => ?_, fun a ha hd j => ?_, fun a ha j => ?_⟩
  · by_cases e : a = m.1
    · subst e
      exact (if_pos rfl).trans hs.symm
    · exact (if_neg e).trans (h4 a (by have : a < m.1 + 1 := ha; show a < m.1; omega))
  · show (if a = m.1 then (fun _ => 0) else m.2.2.2.2.1 a) j = 0
    by_cases e : a = m.1
    · rw [if_pos e]
    · rw [if_neg e]
      exact h5 a (by have : a < m.1 + 1 := ha; show a < m.1; omega) hd j
  · show (if a = m.1 then (fun _ => none) else m.2.2.2.2.2 a) j = _ ∨ _ ∧ (if a = m.1 then (fun _ => none) else m.2.2.2.2.2 a) j = _
    by_cases e : a = m.1
    · rw [if_pos e, e]
      rcases hk j with q | q
      · exact Or.inl q.symm
      · exact Or.inr ⟨q, rfl⟩
    · rw [if_neg e]
      rcases h6 a (by have : a < m.1 + 1 := ha; show a < m.1; omega) j with q | q
      · exact Or.inl q
      · exact Or.inr ⟨hg _ _ q.1, q.2⟩
theorem Bld.obj {kd zz : Nat} (h : Bld k g c z m) (hs : shp k = (kd, 0)) : Bld (k + 1) (fun a j => g a j ∨ a = k) (c + 1) (z + zz) (mNew m kd 0 zz) := h.new hs (fun _ _ q => Or.inl q) (fun _ => Or.inr (Or.inr rfl))
theorem Bld.arr {kd len : Nat} (h : Bld k g c z m) (hs : shp k = (kd, len)) (hk : ∀ j, stR k j = none) : Bld (k + 1) g (c + 1) (z + len) (mNew m kd len len) := h.new hs (fun _ _ q => q) (fun j => Or.inl (hk j))
theorem Bld.rar {kd len : Nat} (h : Bld k g c z m) (hs : shp k = (kd, len)) : Bld (k + 1) (fun a j => g a j ∨ a = k) (c + 1) (z + len) (mNew m kd len len) := h.new hs (fun _ _ q => Or.inl q) (fun _ => Or.inr (Or.inr rfl))
theorem Bld.putR {a j b : Nat} (h : Bld k g c z m) (hs : stR a j = some b) : Bld k (fun a' j' => g a' j' ∧ ¬ (a' = a ∧ j' = j)) c z (mSetR m a j (some b)) := by
  obtain ⟨h1, h2, h3, h4, h5, h6⟩ := h
  refine ⟨h1, h2, h3, h4, h5, fun a' ha j' => ?_⟩
  rw [mR_setR]
  by_cases e : a' = a ∧ j' = j
  · rw [if_pos e, e.1, e.2, hs]
    exact Or.inl rfl
  · rw [if_neg e]
    rcases h6 a' ha j' with q | q
    · exact Or.inl q
    · exact Or.inr ⟨⟨q.1, e⟩, q.2⟩
theorem Bld.putN {a j : Nat} (h : Bld k g c z m) (hs : stR a j = none) : Bld k g c z (mSetR m a j none) := by
  obtain ⟨h1, h2, h3, h4, h5, h6⟩ := h
  refine ⟨h1, h2, h3, h4, h5, fun a' ha j' => ?_⟩
  rw [mR_setR]
  by_cases e : a' = a ∧ j' = j
  · rw [if_pos e, e.1, e.2, hs]
    exact Or.inl rfl
  · rw [if_neg e]
    exact h6 a' ha j'
theorem Bld.putI {a j : Nat} {v : Int32} (h : Bld k g c z m) (hs : dirty a = true ∨ v = 0) : Bld k g c z (mSetI m a j v) := by
  obtain ⟨h1, h2, h3, h4, h5, h6⟩ := h
  refine ⟨h1, h2, h3, h4, fun a' ha hd j' => ?_, h6⟩
  rw [mI_set]
  by_cases e : a' = a ∧ j' = j
  · rw [if_pos e]
    rcases hs with q | q
    · rw [e.1, q] at hd
      cases hd
    · exact q
  · rw [if_neg e]
    exact h5 a' ha hd j'
theorem Bld.close {k' c' z' : Nat} {g' : Nat → Nat → Prop} (h : Bld k g c z m) (hk : k = k') (hc : c = c') (hz : z = z') (hg : ∀ a j, g a j → g' a j ∨ stR a j = none) : Bld k' g' c' z' m := by
  subst hk hc hz
  obtain ⟨h1, h2, h3, h4, h5, h6⟩ := h
  refine ⟨h1, h2, h3, h4, h5, fun a ha j => ?_⟩
  rcases h6 a ha j with q | q
  · exact Or.inl q
  · rcases hg a j q.1 with w | w
    · exact Or.inr ⟨w, q.2⟩
    · exact Or.inl (q.2.trans w.symm)
theorem Bld.mna {N K : Nat} (h : Bld k g c z m) (hs : shp k = (19, N)) (hs2 : ∀ i, i < N → shp (k + 1 + i) = (13, K)) (hr : ∀ j, stR k j = if j < N then some (k + 1 + j) else none) (hr2 : ∀ i j, i < N → stR (k + 1 + i) j = none) : Bld (k + 1 + N) g (c + 1 + N) (z + (N + N * K)) (mMna m N K) := by
  obtain ⟨rfl, rfl, rfl, h4, h5, h6⟩ := h
  have key : ∀ a, a < m.1 + 1 + N → ¬ a < m.1 → ¬ a = m.1 → ∃ i, i < N ∧ a = m.1 + 1 + i := fun a h1 h2 h3 => ⟨a - (m.1 + 1), by omega, by omega⟩
  refine ⟨rfl, rfl, rfl, fun a ha => ?_, fun a ha hd j => ?_, fun a ha j => ?_⟩
  · show (if a < m.1 then m.2.2.2.1 a else if a = m.1 then (19, N) else (13, K)) = _
    by_cases e : a < m.1
    · rw [if_pos e]
      exact h4 a e
    · rw [if_neg e]
      by_cases e2 : a = m.1
      · rw [if_pos e2, e2]
        exact hs.symm
      · rw [if_neg e2]
        obtain ⟨i, hi, rfl⟩ := key a ha e e2
        exact (hs2 i hi).symm
  · show (if a < m.1 then m.2.2.2.2.1 a else fun _ => 0) j = 0
    by_cases e : a < m.1
    · rw [if_pos e]
      exact h5 a e hd j
    · rw [if_neg e]
  · show (if a < m.1 then m.2.2.2.2.2 a else if a = m.1 then (fun j => if j < N then some (m.1 + 1 + j) else none) else fun _ => none) j = _ ∨ _ ∧ (if a < m.1 then m.2.2.2.2.2 a else if a = m.1 then (fun j => if j < N then some (m.1 + 1 + j) else none) else fun _ => none) j = _
    by_cases e : a < m.1
    · rw [if_pos e]
      exact h6 a e j
    · rw [if_neg e]
      by_cases e2 : a = m.1
      · rw [if_pos e2, e2]
        exact Or.inl (hr j).symm
      · rw [if_neg e2]
        obtain ⟨i, hi, rfl⟩ := key a ha e e2
        exact Or.inl (hr2 i j hi).symm
end Bld
