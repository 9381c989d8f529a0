/-! SEARCHES WITHIN: decisions of the run itself, turn by turn -/
theorem LVe.all {fs : List Fn} {s : Ac} {rk : Nat → Nat} (hf : PW fs [] none) (J : JR fs s rk) (hE : aE s = 0) (hW : WR2 fs s) : LVe s (goX (doA fs) s) := by
  cases ht : topK s with
  | nil =>
    left
    unfold goX
    rw [if_pos hE, ht]
    exact E0.of rfl
  | cons t l =>
    rw [goX_cons hE ht]
    obtain ⟨q1, q2⟩ := J.2.2.2.1 (aL s) (Nat.le_refl _) [] t l ht
    have m1 : ∀ {x : Nat} {l : List Nat}, x ∈ x :: l := fun {x l} => List.mem_cons_self ..
    have base : E0 s (setK s l) := E0.k kg_setK
    obtain ⟨k, y, c, d, p⟩ := t
    match k, ht, q1, q2 with
    | 0, ht, q1, _ =>
      have dm : doA fs (setK s l) (0, y, c, d, p) = forceG fs false (setK s l) (root s y) := rfl
      rw [dm]
      by_cases k2 : tK (aF s (root s y)) = 2
      · have e : forceG fs false (setK s l) (root s y) = callA fs (setK s l) (root s y) := by
          unfold forceG
          rw [show tK (aF (setK s l) (root s y)) = 2 from k2]
          rfl
        have hn24 : (rulf fs (tO (aF s (root s y)))).length ≤ 24 := by
          obtain ⟨⟨xf, hxf, _⟩, _⟩ := (J.2.2.1.1 _ (J.1.lt (q1 y m1).1)).2.2.2.2.1 k2
          have hru : rulf fs (tO (aF s (root s y))) = xf.2.2 := by
            unfold rulf
            rw [hxf]
          rw [hru]
          exact Nat.le_trans (tot_le hxf) hf.2.1
        rw [e]
        exact LVe.call hE hn24 (fun w hd => WR2.to hW y c d p l _ ht (Or.inl ⟨k2, rfl, w⟩) hd)
      · by_cases k3 : tK (aF s (root s y)) = 3
        · have ef : forceG fs false (setK s l) (root s y) = if aE (decA (setK s l) (tW (aF s (root s y))) 2).2 = 0 then (match (if (decA (setK s l) (tW (aF s (root s y))) 2).1 = 0 then tA (aF s (root s y)) else tB (aF s (root s y))) with
            | some z => push (link (decA (setK s l) (tW (aF s (root s y))) 2).2 (root s y) z) [(0, z, 0, 0, .nil)]
            | none => (decA (setK s l) (tW (aF s (root s y))) 2).2) else (decA (setK s l) (tW (aF s (root s y))) 2).2 := by
            unfold forceG
            rw [show tK (aF (setK s l) (root s y)) = 3 from k3]
            rfl
          have dd : LVe s (decA (setK s l) (tW (aF s (root s y))) 2).2 := LVe.dec hE (by decide) (by decide) (fun hd => WR2.to hW y c d p l _ ht (Or.inr ⟨k3, rfl⟩) hd)
          rw [ef]
          by_cases g1 : aE (decA (setK s l) (tW (aF s (root s y))) 2).2 = 0
          · rw [if_pos g1]
            split
            · exact dd.k (kg_push (s := link (decA (setK s l) (tW (aF s (root s y))) 2).2 (root s y) _))
            · exact dd
          · rw [if_neg g1]
            exact dd
        · left
          unfold forceG
          split
          · exact absurd ‹_› k2
          · exact absurd ‹_› k3
          · exact base.push
          · exact base.push
          · exact base.tr (up1_ne (f := aV (setK s l)) (v := (root s y, 0, [], [], [tRun], 0)) (show (0 : Nat) ≠ aL s + 1 by omega))
          · exact base
    | 1, _, _, _ => exact Or.inl (E0.push (l := [(0, y, 0, 0, .nil), (2, y, 0, 0, .nil)]) base)
    | 2, _, _, _ =>
      left
      show E0 s (if tK (aF s (root s y)) = 1 ∧ aM s (root s y) = 0 then push (setK s l) (oT 1 (tA (aF s (root s y))) ++ oT 1 (tB (aF s (root s y))) ++ [(3, root s y, 0, 0, .nil)]) else setK s l)
      split
      · exact base.push
      · exact base
    | 3, _, _, _ => exact Or.inl (base.tr (S := sM (setK s l) (up1 (aM s) y 1)) rfl)
    | 4, _, _, _ =>
      left
      show E0 s (if tcode p < 10 then nameA (setK s l) c (tcode p) y else push (setK s l) [(0, y, 0, 0, .nil), (5, y, c, d, p)])
      split
      · exact base
      · exact base.push
    | 5, _, _, _ =>
      left
      show E0 s (metA fs (setK s l) p (root s y) c)
      unfold metA
      simp only []
      split
      · split
        · exact base.tr (S := sE (setK s l) 3) rfl
        · exact E0.push (q := metT (setK s l) (root s y) (tcode p - 10)) base
      · split
        · exact base.push
        · exact base.fl
    | 6, _, _, _ =>
      left
      show E0 s (endG false (setK s l) y)
      unfold endG
      simp only []
      split
      · exact E0.push (q := link (addT (opsA (setK s l) (tT (aF (setK s l) y)) (tP (aF (setK s l) y)) (tW (aF (setK s l) y))) _) y _) (base.tr rfl)
      · exact base.tr (S := opsA (setK s l) (tT (aF (setK s l) y)) (tP (aF (setK s l) y)) (tW (aF (setK s l) y))) rfl
    | 7, _, _, _ => exact Or.inl (base.tr (S := data (setK s l) y 1 none none) rfl)
    | 8, _, _, _ => exact Or.inl base.fl
    | 9, _, _, _ => exact Or.inl (base.tr (S := sL (data (setK s l) y 1 none none) (aL s - 1) (aV (setK s l))) rfl)
    | 10, _, _, _ => exact Or.inl base.unite
    | 11, _, _, _ =>
      left
      show E0 s (askA (setK s l) (root s y) (root s c) d)
      unfold askA
      split
      · exact base
      · split
        · exact base.tr (S := sE (setK s l) 3) rfl
        · simp only []
          split
          · split
            · exact base.st.push
            · exact base.st.setK
          · exact base.st
    | 12, _, _, q2 =>
      left
      show E0 s (runA (setK s l))
      have h1 : 1 ≤ aL s := q2.2.2.1
      unfold runA
      simp only []
      split
      · exact base.tr (up1_ne (show (0 : Nat) ≠ aL s by omega))
      · exact base.st
    | 13, _, _, _ => exact Or.inl (E0.push (l := [(10, y, c, d, .nil), (7, d, 0, 0, .nil)]) base)
    | 14, _, _, _ => exact Or.inl (E0.push (l := [(11, y, c, d, .nil), (8, d, 0, 0, .nil)]) base)
    | n + 15, _, _, q2 => exact q2.elim
