/-! WHAT A VALUE TELLS: the decisions of a run that ended -/
def E0 (s S : Ac) : Prop := lD (aV S 0) = lD (aV s 0) ∧ lG (aV S 0) = lG (aV s 0)
def LVe (s S : Ac) : Prop := E0 s S ∨ ∃ x r n, lG (aV s 0) = x :: r ∧ x < n ∧ n < 100 ∧ lD (aV S 0) = (x, n) :: lD (aV s 0) ∧ lG (aV S 0) = r
theorem E0.of {s S : Ac} (h : aV S 0 = aV s 0) : E0 s S := by
  unfold E0
  rw [h]
  exact ⟨rfl, rfl⟩
theorem E0.k {s S : Ac} (h : kg s S) : E0 s S := ⟨(h.2 0).2.1, (h.2 0).2.2⟩
theorem E0.tr {s q S : Ac} (h : E0 s q) (h' : aV S 0 = aV q 0) : E0 s S := by
  unfold E0
  rw [h']
  exact h
theorem E0.st {s q : Ac} (h : E0 s q) : E0 s (stepA q) := h.tr (step_L.2 0)
theorem E0.fl {s q : Ac} {o : Nat} (h : E0 s q) : E0 s (failA q o) := by
  refine h.tr ?_
  unfold failA
  by_cases w : o = 0
  · rw [if_pos w]
    rfl
  · rw [if_neg w]
    split
    · rfl
    · split
      · rfl
      · exact up1_ne (f := aV q) (show (0 : Nat) ≠ o by omega)
theorem E0.bind {s q : Ac} {x y o : Nat} (h : E0 s q) : E0 s (bindA q x y o) := by
  unfold bindA
  split
  · exact h.fl
  · split
    · exact h.tr (S := link q x y) rfl
    · split
      · exact h.tr (S := link q y x) rfl
      · exact h.tr (S := sE q 3) rfl
theorem E0.push {s q : Ac} {l : List Tk} (h : E0 s q) : E0 s (push q l) := by
  obtain ⟨k1, k2, k3⟩ := (kg_push (s := q) (l := l)).2 0
  exact ⟨k2.trans h.1, k3.trans h.2⟩
theorem E0.setK {s q : Ac} {l : List Tk} (h : E0 s q) : E0 s (setK q l) := by
  obtain ⟨k1, k2, k3⟩ := (kg_setK (s := q) (l := l)).2 0
  exact ⟨k2.trans h.1, k3.trans h.2⟩
theorem E0.unite {s q : Ac} {a b u : Nat} (h : E0 s q) : E0 s (uniteA q a b u) := by
  rw [uniteA_f]
  split
  · exact h
  · split
    · unfold uni
      split
      · exact h.st.bind
      · split
        · exact h.st.bind
        · split
          · exact h.st.push
          · exact h.st.fl
    · exact h.st
theorem LVe.dec {s : Ac} {l : List Tk} {o n : Nat} (hE : aE s = 0) (hn : n < 100) (hn0 : 0 < n) (hw : aE (decA (setK s l) o n).2 = 0 → (decA (setK s l) o n).1 < n) : LVe s (decA (setK s l) o n).2 := by
  obtain ⟨k1, k2, k3⟩ := (kg_setK (s := s) (l := l)).2 0
  have base : E0 s (setK s l) := ⟨k2, k3⟩
  by_cases w : aE (decA (setK s l) o n).2 = 0
  · have hw := hw w
    obtain ⟨e1, e2⟩ := decA_f w (show aE (setK s l) = 0 from hE)
    by_cases w0 : o = 0
    · subst w0
      have hG : lG (aV s 0) ≠ [] := fun q => by
        have : (decA (setK s l) 0 n).2 = sB (setK s l) 5 n ∨ (decA (setK s l) 0 n).2 = sE (setK s l) 4 := by
          unfold decA
          by_cases w4 : (lD (aV (setK s l) 0)).length = 40
          · rw [if_pos w4]
            exact Or.inr rfl
          · rw [if_neg w4, k3, q]
            exact Or.inl rfl
        rcases this with e | e
        · rw [e] at w
          exact absurd w (show ¬ (5 : Nat) = 0 by decide)
        · rw [e] at w
          exact absurd w (show ¬ (4 : Nat) = 0 by decide)
      obtain ⟨x, r, hx⟩ : ∃ x r, lG (aV s 0) = x :: r := by
        cases h : lG (aV s 0) with
        | nil => exact absurd h hG
        | cons x r => exact ⟨x, r, rfl⟩
      have ex : (decA (setK s l) 0 n).1 = x := by
        rw [e2, k3, hx]
        rfl
      rw [ex] at hw e1
      refine Or.inr ⟨x, r, n, hx, hw, hn, ?_, ?_⟩
      · rw [e1]
        show lD (up1 (aV (setK s l)) 0 (lX (aV (setK s l) 0), lU (aV (setK s l) 0), (x, n) :: lD (aV (setK s l) 0), (lG (aV (setK s l) 0)).tail, lK (aV (setK s l) 0), lZ (aV (setK s l) 0)) 0) = _
        rw [up1_at, k2]
      · rw [e1]
        show lG (up1 (aV (setK s l)) 0 (lX (aV (setK s l) 0), lU (aV (setK s l) 0), (x, n) :: lD (aV (setK s l) 0), (lG (aV (setK s l) 0)).tail, lK (aV (setK s l) 0), lZ (aV (setK s l) 0)) 0) = _
        rw [up1_at, k3, hx]
        rfl
    · left
      refine base.tr ?_
      rw [e1]
      show up1 (aV (setK s l)) o (lX (aV (setK s l) o), lU (aV (setK s l) o), ((decA (setK s l) o n).1, n) :: lD (aV (setK s l) o), (lG (aV (setK s l) o)).tail, lK (aV (setK s l) o), lZ (aV (setK s l) o)) 0 = aV (setK s l) 0
      exact up1_ne (Ne.symm w0)
  · left
    have : aV (decA (setK s l) o n).2 = aV (setK s l) := by
      unfold decA at w ⊢
      by_cases w4 : (lD (aV (setK s l) o)).length = 40
      · rw [if_pos w4]
        rfl
      · rw [if_neg w4] at w ⊢
        cases hg : lG (aV (setK s l) o) with
        | cons x r =>
          rw [hg] at w
          exact absurd hE w
        | nil =>
          rw [hg] at w
          by_cases w0 : o = 0
          · show aV (if o = 0 then ((0, sB (setK s l) 5 n) : Nat × Ac) else (0, setD (setK s l) o ((0, n) :: lD (aV (setK s l) o)) [])).2 = _
            rw [if_pos w0]
            rfl
          · have w : ¬ aE (if o = 0 then ((0, sB (setK s l) 5 n) : Nat × Ac) else (0, setD (setK s l) o ((0, n) :: lD (aV (setK s l) o)) [])).2 = 0 := w
            rw [if_neg w0] at w
            exact absurd hE w
    exact base.tr (by rw [this])
theorem LVe.tr {s q S : Ac} (h : LVe s q) (h' : aV S 0 = aV q 0) : LVe s S := by
  unfold LVe E0
  rw [h']
  exact h
theorem LVe.k {s q S : Ac} (h : LVe s q) (e : kg q S) : LVe s S := by
  obtain ⟨_, e2, e3⟩ := e.2 0
  unfold LVe E0
  rw [e2, e3]
  exact h
theorem LVe.call {fs : List Fn} {s : Ac} {l : List Tk} {x : Nat} (hE : aE s = 0) (h24 : (rulf fs (tO (aF s x))).length ≤ 24) (hW : 1 < (rulf fs (tO (aF s x))).length → aE (decA (setK s l) (tW (aF s x)) (rulf fs (tO (aF s x))).length).2 = 0 → (decA (setK s l) (tW (aF s x)) (rulf fs (tO (aF s x))).length).1 < (rulf fs (tO (aF s x))).length) : LVe s (callA fs (setK s l) x) := by
  have base : E0 s (setK s l) := E0.k kg_setK
  unfold callA
  by_cases hn : (rulf fs (tO (aF (setK s l) x))).length = 0
  · rw [if_pos hn]
    exact Or.inl base.fl
  · rw [if_neg hn]
    have gen : ∀ d : Nat × Ac, LVe s d.2 → LVe s (if aE d.2 = 0 then (if aE (stepA d.2) = 0 then takeR (stepA d.2) x ((rulf fs (tO (aF (setK s l) x))).getD d.1 (none, none, .nil)) else stepA d.2) else d.2) := fun d hd => by
      split
      · split
        · exact (hd.k kg_step).k (kg_push (s := takeT (stepA d.2) x ((rulf fs (tO (aF (setK s l) x))).getD d.1 (none, none, .nil))))
        · exact hd.tr (step_L.2 0)
      · exact hd
    refine gen _ ?_
    split
    · rename_i w
      exact LVe.dec hE (by show (rulf fs (tO (aF s x))).length < 100; omega) (by omega) (hW w)
    · exact Or.inl base
theorem LVe.go {fs : List Fn} {s : Ac} {rk : Nat → Nat} (hf : PW fs [] none) (J : JR fs s rk) (hE : aE s = 0) (hW : WR2 fs s) (h0 : aE (goX (doA fs) s) ≠ 0) : LVe s (goX (doA fs) s) := by
  cases ht : topK s with
  | nil =>
    left
    unfold goX
    rw [if_pos hE, ht]
    exact E0.of rfl
  | cons t l =>
    rw [goX_cons hE ht] at h0 ⊢
    obtain ⟨q1, q2⟩ := J.2.2.2.1 (aL s) (Nat.le_refl _) [] t l ht
    have m1 : ∀ {x : Nat} {l : List Nat}, x ∈ x :: l := fun {x l} => List.mem_cons_self ..
    have base : E0 s (setK s l) := E0.k kg_setK
    obtain ⟨k, y, c, d, p⟩ := t
    match k, ht, q1, q2, h0 with
    | 0, ht, q1, _, h0 =>
      have dm : doA fs (setK s l) (0, y, c, d, p) = forceG fs false (setK s l) (root s y) := rfl
      rw [dm] at h0 ⊢
      by_cases k2 : tK (aF s (root s y)) = 2
      · have e : forceG fs false (setK s l) (root s y) = callA fs (setK s l) (root s y) := by
          unfold forceG
          rw [show tK (aF (setK s l) (root s y)) = 2 from k2]
          rfl
        have hn24 : (rulf fs (tO (aF s (root s y)))).length ≤ 24 := by
          obtain ⟨⟨xf, hxf, _⟩, _⟩ := (J.2.2.1.1 _ (J.1.lt (q1 y m1).1)).2.2.2.2.1 k2
          have hru : rulf fs (tO (aF s (root s y))) = xf.2.2 := by
            unfold rulf
            rw [hxf]
          rw [hru]
          exact Nat.le_trans (tot_le hxf) hf.2.1
        rw [e] at h0 ⊢
        exact LVe.call hE hn24 (fun w hd => WR2.to hW y c d p l _ ht (Or.inl ⟨k2, rfl, w⟩) hd)
      · by_cases k3 : tK (aF s (root s y)) = 3
        · have ef : forceG fs false (setK s l) (root s y) = if aE (decA (setK s l) (tW (aF s (root s y))) 2).2 = 0 then (match (if (decA (setK s l) (tW (aF s (root s y))) 2).1 = 0 then tA (aF s (root s y)) else tB (aF s (root s y))) with
            | some z => push (link (decA (setK s l) (tW (aF s (root s y))) 2).2 (root s y) z) [(0, z, 0, 0, .nil)]
            | none => (decA (setK s l) (tW (aF s (root s y))) 2).2) else (decA (setK s l) (tW (aF s (root s y))) 2).2 := by
            unfold forceG
            rw [show tK (aF (setK s l) (root s y)) = 3 from k3]
            rfl
          have dd : LVe s (decA (setK s l) (tW (aF s (root s y))) 2).2 := LVe.dec hE (by decide) (by decide) (fun hd => WR2.to hW y c d p l _ ht (Or.inr ⟨k3, rfl⟩) hd)
          rw [ef] at h0 ⊢
          by_cases g1 : aE (decA (setK s l) (tW (aF s (root s y))) 2).2 = 0
          · exfalso
            rw [if_pos g1] at h0
            split at h0
            · exact h0 g1
            · exact h0 g1
          · rw [if_neg g1]
            exact dd
        · exfalso
          unfold forceG at h0
          split at h0
          · exact k2 ‹_›
          · exact k3 ‹_›
          · exact h0 hE
          · exact h0 hE
          · exact h0 hE
          · exact h0 hE
    | 1, _, _, _, h0 => exact absurd hE h0
    | 2, _, _, _, h0 =>
      left
      show E0 s (if tK (aF s (root s y)) = 1 ∧ aM s (root s y) = 0 then push (setK s l) (oT 1 (tA (aF s (root s y))) ++ oT 1 (tB (aF s (root s y))) ++ [(3, root s y, 0, 0, .nil)]) else setK s l)
      split
      · exact base.push
      · exact base
    | 3, _, _, _, h0 => exact absurd hE h0
    | 4, _, _, _, h0 =>
      left
      show E0 s (if tcode p < 10 then nameA (setK s l) c (tcode p) y else push (setK s l) [(0, y, 0, 0, .nil), (5, y, c, d, p)])
      split
      · exact base
      · exact base.push
    | 5, _, _, _, h0 =>
      left
      show E0 s (metA fs (setK s l) p (root s y) c)
      unfold metA
      simp only []
      split
      · split
        · exact base.tr (S := sE (setK s l) 3) rfl
        · exact E0.push (q := metT (setK s l) (root s y) (tcode p - 10)) base
      · split
        · exact base.push
        · exact base.fl
    | 6, _, _, _, h0 =>
      exfalso
      have h0 : aE (endG false (setK s l) y) ≠ 0 := h0
      unfold endG at h0
      simp only [] at h0
      split at h0
      · exact h0 hE
      · exact h0 hE
    | 7, _, _, _, h0 => exact absurd hE h0
    | 8, _, _, _, h0 => exact Or.inl base.fl
    | 9, _, _, _, h0 => exact absurd hE h0
    | 10, _, _, _, h0 => exact Or.inl base.unite
    | 11, _, _, _, h0 =>
      left
      show E0 s (askA (setK s l) (root s y) (root s c) d)
      unfold askA
      split
      · exact base
      · split
        · exact base.tr (S := sE (setK s l) 3) rfl
        · simp only []
          split
          · split
            · exact base.st.push
            · exact base.st.setK
          · exact base.st
    | 12, _, _, q2, h0 =>
      left
      show E0 s (runA (setK s l))
      have h1 : 1 ≤ aL s := q2.2.2.1
      unfold runA
      simp only []
      split
      · exact base.tr (up1_ne (show (0 : Nat) ≠ aL s by omega))
      · exact base.st
    | 13, _, _, _, h0 => exact absurd hE h0
    | 14, _, _, _, h0 => exact absurd hE h0
    | n + 15, _, _, q2, _ => exact q2.elim
