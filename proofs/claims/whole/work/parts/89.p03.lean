/-! WAYS OF A RUN ITSELF: how a run branches -/
theorem f5 {s : Ac} {o : Nat} (hE : aE s = 0) : aE (failA s o) ≠ 5 := by
  unfold failA
  split
  · exact (show (2 : Nat) ≠ 5 by decide)
  · split
    · show aE s ≠ 5
      omega
    · split
      · exact (show (4 : Nat) ≠ 5 by decide)
      · show aE s ≠ 5
        omega
theorem st5 {s : Ac} (hE : aE s = 0) : aE (stepA s) ≠ 5 := by
  unfold stepA
  split
  · exact (show (4 : Nat) ≠ 5 by decide)
  · show aE s ≠ 5
    omega
theorem b5 {s : Ac} {x y o : Nat} (hE : aE s = 0) : aE (bindA s x y o) ≠ 5 := by
  have h : ∀ S : Ac, aE S = 0 → aE S ≠ 5 := fun S q => by omega
  unfold bindA
  split
  · exact f5 hE
  · split
    · exact h (link s x y) hE
    · split
      · exact h (link s y x) hE
      · exact (show (3 : Nat) ≠ 5 by decide)
theorem dec5 {s : Ac} {o n : Nat} (hE : aE s = 0) (h5 : aE (decA s o n).2 = 5) : o = 0 ∧ lG (aV s 0) = [] ∧ (lD (aV s 0)).length ≠ 40 ∧ (decA s o n).2 = sB s 5 n := by
  unfold decA at h5 ⊢
  by_cases w : (lD (aV s o)).length = 40
  · rw [if_pos w] at h5
    exact absurd h5 (show ¬ (4 : Nat) = 5 by decide)
  · rw [if_neg w] at h5 ⊢
    cases e : lG (aV s o) with
    | cons x r =>
      rw [e] at h5
      have h5 : aE s = 5 := h5
      omega
    | nil =>
      rw [e] at h5
      by_cases w0 : o = 0
      · subst w0
        exact ⟨rfl, e, w, rfl⟩
      · have h5 : aE (if o = 0 then ((0, sB s 5 n) : Nat × Ac) else (0, setD s o ((0, n) :: lD (aV s o)) [])).2 = 5 := h5
        rw [if_neg w0] at h5
        have h5 : aE s = 5 := h5
        omega
theorem call5 {fs : List Fn} {s : Ac} {x : Nat} (hE : aE s = 0) (h5 : aE (callA fs s x) = 5) : 1 < (rulf fs (tO (aF s x))).length ∧ tW (aF s x) = 0 ∧ lG (aV s 0) = [] ∧ (lD (aV s 0)).length ≠ 40 ∧ callA fs s x = sB s 5 (rulf fs (tO (aF s x))).length := by
  unfold callA at h5 ⊢
  by_cases hn : (rulf fs (tO (aF s x))).length = 0
  · rw [if_pos hn] at h5
    exact absurd h5 (f5 hE)
  · rw [if_neg hn] at h5 ⊢
    simp only [] at h5 ⊢
    by_cases w : 1 < (rulf fs (tO (aF s x))).length
    · rw [if_pos w] at h5 ⊢
      by_cases g1 : aE (decA s (tW (aF s x)) (rulf fs (tO (aF s x))).length).2 = 0
      · rw [if_pos g1] at h5
        exfalso
        split at h5
        · rename_i g2
          have h5 : aE (stepA (decA s (tW (aF s x)) (rulf fs (tO (aF s x))).length).2) = 5 := h5
          omega
        · exact st5 g1 h5
      · rw [if_neg g1] at h5 ⊢
        obtain ⟨e1, e2, e3, e4⟩ := dec5 hE h5
        exact ⟨w, e1, e2, e3, e4⟩
    · rw [if_neg w] at h5
      exfalso
      have h5 : aE (if aE s = 0 then (if aE (stepA s) = 0 then takeR (stepA s) x ((rulf fs (tO (aF s x))).getD 0 (none, none, .nil)) else stepA s) else s) = 5 := h5
      rw [if_pos hE] at h5
      split at h5
      · rename_i g2
        have h5 : aE (stepA s) = 5 := h5
        omega
      · exact st5 hE h5
/-- what a branch tells -/
def BRf (fs : List Fn) (s S : Ac) : Prop := ∃ y c d p l k, topK s = (0, y, c, d, p) :: l ∧ tW (aF s (root s y)) = 0 ∧ lG (aV s 0) = [] ∧ (lD (aV s 0)).length ≠ 40 ∧ ((tK (aF s (root s y)) = 2 ∧ k = (rulf fs (tO (aF s (root s y)))).length ∧ 1 < k) ∨ (tK (aF s (root s y)) = 3 ∧ k = 2)) ∧ S = sB (setK s l) 5 k
theorem BRx {fs : List Fn} {s : Ac} {rk : Nat → Nat} (J : JR fs s rk) (hE : aE s = 0) (h5 : aE (goX (doA fs) s) = 5) : BRf fs s (goX (doA fs) s) := by
  cases ht : topK s with
  | nil =>
    unfold goX at h5
    rw [if_pos hE, ht] at h5
    exact absurd h5 (show ¬ (1 : Nat) = 5 by decide)
  | cons t l =>
    rw [goX_cons hE ht] at h5 ⊢
    have hEq : aE (setK s l) = 0 := hE
    have n5 : ∀ S : Ac, aE S = 0 → aE S ≠ 5 := fun S q => by omega
    obtain ⟨q1, q2⟩ := J.2.2.2.1 (aL s) (Nat.le_refl _) [] t l ht
    obtain ⟨k, y, c, d, p⟩ := t
    obtain ⟨g1, g2, g3⟩ := (kg_setK (s := s) (l := l)).2 0
    have un5 : ∀ a b u, aE (uniteA (setK s l) a b u) ≠ 5 := fun a b u => by
      rw [uniteA_f]
      split
      · exact n5 _ hEq
      · split
        · rename_i es
          unfold uni
          split
          · exact b5 es
          · split
            · exact b5 es
            · split
              · exact n5 (push (stepA (setK s l)) _) es
              · exact f5 es
        · exact st5 hEq
    match k, ht, q2, h5 with
    | 0, ht, _, h5 =>
      have h5 : aE (forceG fs false (setK s l) (root s y)) = 5 := h5
      show BRf fs s (forceG fs false (setK s l) (root s y))
      by_cases k2 : tK (aF s (root s y)) = 2
      · have e : forceG fs false (setK s l) (root s y) = callA fs (setK s l) (root s y) := by
          unfold forceG
          rw [show tK (aF (setK s l) (root s y)) = 2 from k2]
          rfl
        rw [e] at h5 ⊢
        obtain ⟨e1, e2, e3, e4, e5⟩ := call5 hEq h5
        exact ⟨y, c, d, p, l, _, ht, e2, by rw [← g3]; exact e3, by rw [← g2]; exact e4, Or.inl ⟨k2, rfl, e1⟩, e5⟩
      · by_cases k3 : tK (aF s (root s y)) = 3
        · have ef : forceG fs false (setK s l) (root s y) = if aE (decA (setK s l) (tW (aF s (root s y))) 2).2 = 0 then (match (if (decA (setK s l) (tW (aF s (root s y))) 2).1 = 0 then tA (aF s (root s y)) else tB (aF s (root s y))) with
            | some z => push (link (decA (setK s l) (tW (aF s (root s y))) 2).2 (root s y) z) [(0, z, 0, 0, .nil)]
            | none => (decA (setK s l) (tW (aF s (root s y))) 2).2) else (decA (setK s l) (tW (aF s (root s y))) 2).2 := by
            unfold forceG
            rw [show tK (aF (setK s l) (root s y)) = 3 from k3]
            rfl
          rw [ef] at h5 ⊢
          by_cases d0 : aE (decA (setK s l) (tW (aF s (root s y))) 2).2 = 0
          · rw [if_pos d0] at h5
            exfalso
            split at h5
            · exact n5 (push (link (decA (setK s l) (tW (aF s (root s y))) 2).2 (root s y) _) _) d0 h5
            · omega
          · rw [if_neg d0] at h5 ⊢
            obtain ⟨e1, e2, e3, e4⟩ := dec5 hEq h5
            exact ⟨y, c, d, p, l, _, ht, e1, by rw [← g3]; exact e2, by rw [← g2]; exact e3, Or.inr ⟨k3, rfl⟩, e4⟩
        · exfalso
          unfold forceG at h5
          split at h5
          · exact k2 ‹_›
          · exact k3 ‹_›
          · exact n5 (push (setK s l) _) hEq h5
          · exact n5 (push (setK s l) _) hEq h5
          · exact n5 (setK s l) hEq h5
          · exact n5 (setK s l) hEq h5
    | 1, _, _, h5 => exact absurd h5 (n5 (setK s l) hEq)
    | 2, _, _, h5 =>
      exfalso
      have h5 : aE (if tK (aF s (root s y)) = 1 ∧ aM s (root s y) = 0 then push (setK s l) (oT 1 (tA (aF s (root s y))) ++ oT 1 (tB (aF s (root s y))) ++ [(3, root s y, 0, 0, .nil)]) else setK s l) = 5 := h5
      split at h5
      · exact n5 (setK s l) hEq h5
      · exact n5 (setK s l) hEq h5
    | 3, _, _, h5 => exact absurd h5 (n5 (setK s l) hEq)
    | 4, _, _, h5 =>
      exfalso
      have h5 : aE (if tcode p < 10 then nameA (setK s l) c (tcode p) y else push (setK s l) [(0, y, 0, 0, .nil), (5, y, c, d, p)]) = 5 := h5
      split at h5
      · exact n5 (setK s l) hEq h5
      · exact n5 (setK s l) hEq h5
    | 5, _, _, h5 =>
      exfalso
      have h5 : aE (metA fs (setK s l) p (root s y) c) = 5 := h5
      unfold metA at h5
      simp only [] at h5
      split at h5
      · split at h5
        · exact absurd h5 (show ¬ (3 : Nat) = 5 by decide)
        · exact n5 (setK s l) hEq h5
      · split at h5
        · exact n5 (setK s l) hEq h5
        · exact f5 hEq h5
    | 6, _, _, h5 =>
      exfalso
      have h5 : aE (endG false (setK s l) y) = 5 := h5
      unfold endG at h5
      simp only [] at h5
      split at h5
      · exact n5 (setK s l) hEq h5
      · exact n5 (setK s l) hEq h5
    | 7, _, _, h5 => exact absurd h5 (n5 (setK s l) hEq)
    | 8, _, _, h5 => exact absurd h5 (f5 hEq)
    | 9, _, _, h5 => exact absurd h5 (n5 (setK s l) hEq)
    | 10, _, _, h5 => exact absurd h5 (un5 _ _ _)
    | 11, _, _, h5 =>
      exfalso
      have h5 : aE (askA (setK s l) (root s y) (root s c) d) = 5 := h5
      unfold askA at h5
      simp only [] at h5
      split at h5
      · exact n5 (setK s l) hEq h5
      · split at h5
        · exact absurd h5 (show ¬ (3 : Nat) = 5 by decide)
        · split at h5
          · rename_i es
            split at h5
            · exact n5 (push (stepA (setK s l)) _) es h5
            · exact n5 (stepA (setK s l)) es h5
          · exact st5 hEq h5
    | 12, _, _, h5 =>
      exfalso
      have h5 : aE (runA (setK s l)) = 5 := h5
      unfold runA at h5
      simp only [] at h5
      split at h5
      · rename_i es
        exact n5 (stepA (setK s l)) es h5
      · exact st5 hEq h5
    | 13, _, _, h5 => exact absurd h5 (n5 (setK s l) hEq)
    | 14, _, _, h5 => exact absurd h5 (n5 (setK s l) hEq)
    | n + 15, _, q2, _ => exact q2.elim
theorem BRy {fs : List Fn} {s : Ac} {y c d : Nat} {p : Tr} {l : List Tk} {k : Nat} (hE : aE s = 0) (ht : topK s = (0, y, c, d, p) :: l) (h0 : tW (aF s (root s y)) = 0) (hG : lG (aV s 0) = []) (hD : (lD (aV s 0)).length ≠ 40) (hk : (tK (aF s (root s y)) = 2 ∧ k = (rulf fs (tO (aF s (root s y)))).length ∧ 1 < k) ∨ (tK (aF s (root s y)) = 3 ∧ k = 2)) : goX (doA fs) s = sB (setK s l) 5 k := by
  rw [goX_cons hE ht]
  show forceG fs false (setK s l) (root s y) = _
  obtain ⟨g1, g2, g3⟩ := (kg_setK (s := s) (l := l)).2 0
  have ed : decA (setK s l) 0 k = (0, sB (setK s l) 5 k) := by
    unfold decA
    rw [if_neg (by rw [g2]; exact hD), g3, hG]
    rfl
  rcases hk with ⟨k2, ek, k1⟩ | ⟨k3, ek⟩
  · have e : forceG fs false (setK s l) (root s y) = callA fs (setK s l) (root s y) := by
      unfold forceG
      rw [show tK (aF (setK s l) (root s y)) = 2 from k2]
      rfl
    rw [e]
    unfold callA
    rw [show aF (setK s l) = aF s from rfl, ← ek, if_neg (by omega)]
    simp only []
    rw [if_pos k1, h0, ed]
    exact if_neg (show ¬ (5 : Nat) = 0 by decide)
  · subst ek
    unfold forceG
    rw [show tK (aF (setK s l) (root s y)) = 3 from k3]
    show (if aE (decA (setK s l) (tW (aF s (root s y))) 2).2 = 0 then (match (if (decA (setK s l) (tW (aF s (root s y))) 2).1 = 0 then tA (aF s (root s y)) else tB (aF s (root s y))) with
            | some z => push (link (decA (setK s l) (tW (aF s (root s y))) 2).2 (root s y) z) [(0, z, 0, 0, .nil)]
            | none => (decA (setK s l) (tW (aF s (root s y))) 2).2) else (decA (setK s l) (tW (aF s (root s y))) 2).2) = _
    rw [h0, ed]
    exact if_neg (show ¬ (5 : Nat) = 0 by decide)
