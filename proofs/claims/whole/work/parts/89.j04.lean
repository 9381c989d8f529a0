/-! WHAT HOLDS IN EVERY RUN: runs within begin and end -/
theorem GR.eq {s s' : Ac} {rk : Nat → Nat} (h : GR s rk) (e1 : aC s' = aC s) (e2 : aF s' = aF s) (e3 : aN s' = aN s) : GR s' rk := by
  unfold GR Ed at h ⊢
  rw [e1, e2, e3]
  exact h
theorem JT.eq {fs : List Fn} {s s' : Ac} (h : JT fs s) (e1 : aC s' = aC s) (e2 : aF s' = aF s) (e3 : aN s' = aN s) (e4 : aP s' = aP s) : JT fs s' := by
  unfold JT ThO PDs NRs at h ⊢
  rw [e1, e2, e3, e4]
  exact h
theorem lowX_suf {v : Nat → Lv} {L' : Nat} : ∀ {L : Nat}, L' ≤ L → ∃ A, lowX v L = A ++ lowX v L'
  | 0, h => ⟨[], by rw [show L' = 0 by omega]; rfl⟩
  | L + 1, h => by
    by_cases e : L' = L + 1
    · exact ⟨[], by rw [e]; rfl⟩
    · obtain ⟨A, hA⟩ := lowX_suf (v := v) (L' := L') (L := L) (by omega)
      exact ⟨(15, lX (v (L + 1)), 0, 0, .nil) :: (lK (v L) ++ A), by
        show (15, lX (v (L + 1)), 0, 0, .nil) :: (lK (v L) ++ lowX v L) = _
        rw [hA, List.cons_append, List.append_assoc]⟩
theorem ORD.low {s : Ac} {rk : Nat → Nat} (o : ORD s rk) {L' : Nat} (h : L' ≤ aL s) : List.Pairwise (orR rk) (lowX (aV s) L') := by
  obtain ⟨A, hA⟩ := lowX_suf (v := aV s) h
  have o : List.Pairwise (orR rk) (topK s ++ lowX (aV s) (aL s)) := o
  rw [hA, ← List.append_assoc] at o
  exact (List.pairwise_append.mp o).2.1
theorem JK.n12 {fs : List Fn} {s : Ac} (jk : JK fs s) {j : Nat} {l1 l2 : List Tk} {b : Tk} (hj : j ≤ aL s) (e : lK (aV s j) = l1 ++ b :: l2) (h : j < aL s ∨ l1 ≠ []) : b.1 ≠ 12 := fun q => by
  have := (jk j hj l1 b l2 e).2
  rw [q] at this
  rcases h with w | w
  · have := this.2.2.2.1
    omega
  · exact w this.2.1
/-- a run within ends, what it was sought for is data -/
theorem JR.pop {fs : List Fn} {s s' : Ac} {rk : Nat → Nat} {L' : Nat} (J : JR fs s rk) (hl : L' < aL s) (hL : aL s' = L') (hX : ∀ j, j ≤ L' → lX (aV s' j) = lX (aV s j)) (hk : ∀ j, j ≤ L' → lK (aV s' j) = lK (aV s j))
  (hT : JT fs s') (hG : GR s' rk) (hE : Ev s s') (hu : ∀ f, f ∈ lK (aV s L') ++ lowX (aV s) L' → ∀ u, u ∈ frs f → aF s' u = aF s u) (hx : tK (aF s' (lX (aV s (L' + 1)))) = 1) : JR fs s' rk := by
  obtain ⟨g, o, jt, jk, jl⟩ := J
  have low : lowX (aV s') L' = lowX (aV s) L' := lowX_eq (fun j _ h => hX j h) (fun j h => hk j (by omega))
  have hso : ∀ j, 1 ≤ j → j ≤ L' → aF s' (lX (aV s j)) = aF s (lX (aV s j)) := fun j j1 j2 => hu _ (List.mem_append_right _ (mem_lx j1 j2)) _ (List.mem_cons_self ..)
  have hxx : ∀ j y, j ≤ L' → y < aC s → j < aL s → lX (aV s (j + 1)) = root s y → tK (aF s' (root s' y)) < 2 ∨ (j < aL s' ∧ lX (aV s' (j + 1)) = root s' y) := fun j y hjl hy hj e => by
    by_cases w : j = L'
    · subst w
      refine Or.inl ?_
      rw [hE.rt g hG hy, ← e, root_no (by rw [hx]; decide), hx]
      decide
    · refine Or.inr ⟨by omega, ?_⟩
      rw [hX _ (by omega)]
      exact hE.stay g hG hy e (hso _ (by omega) (by omega))
  refine ⟨hG, ?_, hT, ?_, ?_⟩
  · unfold ORD flX
    rw [show topK s' = lK (aV s' (aL s')) from rfl, hL, low, hk _ (Nat.le_refl _)]
    have := o.low (L' := L' + 1) (by omega)
    exact (List.pairwise_cons.mp this).2
  · intro j hj l1 b l2 e
    rw [hL] at hj
    rw [hk j hj] at e
    have hmem : ∀ c, c ∈ l1 ++ b :: l2 → c ∈ lK (aV s L') ++ lowX (aV s) L' := fun c hc2 => by
      by_cases w : j = L'
      · subst w
        exact List.mem_append_left _ (by rw [e]; exact hc2)
      · exact List.mem_append_right _ (mem_low (show j < L' by omega) (by rw [e]; exact hc2))
    exact (jk j (by omega) l1 b l2 e).ev hE g hG (hu b (hmem b (List.mem_append_right _ (List.mem_cons_self ..)))) (hX j hj) (fun y hy w => w.ev hE g hG hy (fun c hc2 => hu c (hmem c (List.mem_append_left _ hc2))) (hxx j y hj hy)) (fun w hw2 q => q.ev hE g hG hw2 (fun c hc2 => hu c (hmem c (List.mem_append_left _ hc2)))) (jk.n12 (by omega) e (Or.inl (by omega)))
  · intro j j1 j2
    rw [hL] at j2
    obtain ⟨a1, a2, a3, n, z, a4, a5⟩ := jl j j1 (by omega)
    have ex := hso j j1 j2
    rw [hX j j2, hk j j2, ex]
    exact ⟨Nat.lt_of_lt_of_le a1 hE.1, a2, a3, n, z, a4, a5⟩
theorem KO.run {fs : List Fn} {s : Ac} {L : Nat} (h1 : 1 ≤ L) (h2 : L = aL s) {l1 l2 : List Tk} {b : Tk} (e : [tRun] = l1 ++ b :: l2) : KO fs s L l1 b l2 := by
  cases l1 with
  | nil =>
    have : tRun = b ∧ [] = l2 := by simpa using e
    rw [← this.1, ← this.2]
    exact ⟨fun y hy => (List.not_mem_nil hy).elim, rfl, rfl, h1, h2, rfl⟩
  | cons z l1 => simp at e
/-- the next run within -/
theorem JR.again {fs : List Fn} {s s' : Ac} {rk : Nat → Nat} {o : Nat} (J : JR fs s rk) (ho : 1 ≤ o) (hl : o ≤ aL s) (hL : aL s' = o) (hX : ∀ j, j ≤ o → lX (aV s' j) = lX (aV s j)) (hk : ∀ j, j < o → lK (aV s' j) = lK (aV s j)) (hk0 : lK (aV s' o) = [tRun])
  (e1 : aC s' = aC s) (e2 : aF s' = aF s) (e3 : aN s' = aN s) (e4 : aP s' = aP s) : JR fs s' rk := by
  obtain ⟨g, od, jt, jk, jl⟩ := J
  have hG := g.eq e1 e2 e3
  have hE : Ev s s' := Ev.same (by omega) (fun x _ => by rw [e2])
  have low : lowX (aV s') o = lowX (aV s) o := lowX_eq (fun j _ h => hX j h) hk
  have hu : ∀ b : Tk, ∀ u, u ∈ frs b → aF s' u = aF s u := fun _ u _ => by rw [e2]
  refine ⟨hG, ?_, jt.eq e1 e2 e3 e4, ?_, ?_⟩
  · unfold ORD flX
    rw [show topK s' = lK (aV s' (aL s')) from rfl, hL, hk0, low]
    exact List.pairwise_cons.mpr ⟨fun a _ u _ y hy => (List.not_mem_nil hy).elim, od.low hl⟩
  · intro j hj l1 b l2 e
    rw [hL] at hj
    by_cases w : j = o
    · subst w
      rw [hk0] at e
      exact KO.run ho hL.symm e
    · rw [hk j (by omega)] at e
      refine (jk j (by omega) l1 b l2 e).ev hE g hG (hu b) (hX j hj) (fun y hy w => w.ev hE g hG hy (fun c _ => hu c) (fun q1 q2 => Or.inr ⟨by omega, ?_⟩)) (fun w hw2 q => q.ev hE g hG hw2 (fun c _ => hu c)) (jk.n12 (by omega) e (Or.inl (by omega)))
      rw [hX _ (by omega)]
      exact hE.stay g hG hy q2 (by rw [e2])
  · intro j j1 j2
    rw [hL] at j2
    obtain ⟨a1, a2, a3, n, z, a4, a5⟩ := jl j j1 (by omega)
    rw [hX j j2, e1, e2]
    refine ⟨a1, a2, a3, ?_⟩
    by_cases w : j = o
    · subst w
      exact ⟨[], tRun, hk0, Or.inr rfl⟩
    · rw [hk j (by omega)]
      exact ⟨n, z, a4, a5⟩
/-- a run within is begun -/
theorem JR.more {fs : List Fn} {s s' : Ac} {rk : Nat → Nat} {y : Nat} {l : List Tk} (J : JR fs s rk) (ht : topK s = (0, y, 0, 0, .nil) :: l) (hL : aL s' = aL s + 1) (hX : ∀ j, j ≤ aL s → lX (aV s' j) = lX (aV s j)) (hX1 : lX (aV s' (aL s + 1)) = root s y) (h6 : tK (aF s (root s y)) = 6) (hk : ∀ j, j < aL s → lK (aV s' j) = lK (aV s j)) (hk0 : lK (aV s' (aL s)) = l) (hk1 : lK (aV s' (aL s + 1)) = [tRun])
  (e1 : aC s' = aC s) (e2 : aF s' = aF s) (e3 : aN s' = aN s) (e4 : aP s' = aP s) : JR fs s' rk := by
  obtain ⟨g, od, jt, jk, jl⟩ := J
  have hG := g.eq e1 e2 e3
  have hE : Ev s s' := Ev.same (by omega) (fun x _ => by rw [e2])
  have low : lowX (aV s') (aL s) = lowX (aV s) (aL s) := lowX_eq (fun j _ h => hX j h) hk
  have hu : ∀ b : Tk, ∀ u, u ∈ frs b → aF s' u = aF s u := fun _ u _ => by rw [e2]
  have hy := (jk (aL s) (Nat.le_refl _) [] _ l ht).1 y (List.mem_cons_self ..)
  have hr := g.lt hy.1
  have hle := g.le hy.1
  have roots : ∀ z, z < aC s → root s' z = root s z := fun z hz => (hE.stay g hG hz rfl (by rw [e2])).symm
  have o2 : List.Pairwise (orR rk) ((0, y, 0, 0, .nil) :: (l ++ lowX (aV s) (aL s))) := by
    have : List.Pairwise (orR rk) (topK s ++ lowX (aV s) (aL s)) := od
    rw [ht] at this
    exact this
  obtain ⟨o3, o4⟩ := List.pairwise_cons.mp o2
  have old : ∀ j l1 b l2, j ≤ aL s → lK (aV s' j) = l1 ++ b :: l2 → KO fs s' j l1 b l2 := by
    intro j l1 b l2 hj e
    by_cases w : j = aL s
    · subst w
      rw [hk0] at e
      have et : lK (aV s (aL s)) = ((0, y, 0, 0, .nil) :: l1) ++ b :: l2 := by
        show topK s = _
        rw [ht, e]
        rfl
      refine (jk _ (Nat.le_refl _) _ b l2 et).ev hE g hG (hu b) (hX _ (Nat.le_refl _)) ?_ ?_ (jk.n12 (Nat.le_refl _) et (Or.inr (by simp)))
      · intro z hz w
        rcases w with w | ⟨m, c, ec, w⟩ | ⟨w, _⟩
        · exact Or.inl (hE.fo g hG hz w)
        · rcases List.eq_nil_or_concat l1 with ea | ⟨a2, d, ea⟩
          · subst ea
            have : m = [] ∧ (0, y, 0, 0, .nil) = c := by
              cases m with
              | nil => exact ⟨rfl, by simpa using ec⟩
              | cons z m => simp at ec
            rw [← this.2] at w
            rcases w with ⟨_, _, w⟩ | ⟨w, _⟩ | ⟨w, _⟩
            · refine Or.inr (Or.inr ⟨rfl, by omega, ?_⟩)
              rw [hX1, roots z hz]
              exact w
            · exact absurd w (show ¬ ((0 : Nat) = 6 ∨ (0 : Nat) = 7 ∨ (0 : Nat) = 8) by decide)
            · exact absurd w (show ¬ ((0 : Nat) = 13 ∨ (0 : Nat) = 14) by decide)
          · rw [ea, List.concat_eq_append, ← List.cons_append] at ec
            have ed : d = c := by
              have := List.append_inj_right' ec rfl
              simpa using this
            rw [← ed] at w
            exact Or.inr (Or.inl ⟨a2, d, by rw [ea, List.concat_eq_append], w.ev hE g hG hz (hu d)⟩)
        · cases w
      · intro w hw2 q
        have q : Cv s l1 w := by
          rcases q with q | ⟨c, hc2, q⟩
          · exact Or.inl q
          · rcases List.mem_cons.mp hc2 with ec | hc2
            · subst ec
              rcases q with ⟨q, _⟩ | ⟨q, _⟩
              · exact absurd q (show ¬ ((0 : Nat) = 1 ∨ (0 : Nat) = 2) by decide)
              · exact absurd q (show ¬ (0 : Nat) = 3 by decide)
            · exact Or.inr ⟨c, hc2, q⟩
        exact q.ev hE g hG hw2 (fun c _ => hu c)
    · rw [hk j (by omega)] at e
      refine (jk j hj l1 b l2 e).ev hE g hG (hu b) (hX j hj) (fun z hz w => w.ev hE g hG hz (fun c _ => hu c) (fun q1 q2 => Or.inr ⟨by omega, ?_⟩)) (fun w hw2 q => q.ev hE g hG hw2 (fun c _ => hu c)) (jk.n12 hj e (Or.inl (by omega)))
      rw [hX _ (by omega), roots z hz]
      exact q2
  refine ⟨hG, ?_, jt.eq e1 e2 e3 e4, ?_, ?_⟩
  · unfold ORD flX
    rw [show topK s' = lK (aV s' (aL s')) from rfl, hL, hk1]
    show List.Pairwise (orR rk) (tRun :: (15, lX (aV s' (aL s + 1)), 0, 0, .nil) :: (lK (aV s' (aL s)) ++ lowX (aV s') (aL s)))
    rw [hk0, low, hX1]
    refine List.pairwise_cons.mpr ⟨fun a _ u _ y hy => (List.not_mem_nil hy).elim, List.pairwise_cons.mpr ⟨fun a ha u hu2 z hz => ?_, o4⟩⟩
    have ez : z = root s y := List.mem_singleton.mp hz
    have := o3 a ha u hu2 y (List.mem_singleton.mpr rfl)
    rw [ez]
    omega
  · intro j hj l1 b l2 e
    rw [hL] at hj
    by_cases w : j = aL s + 1
    · subst w
      rw [hk1] at e
      exact KO.run (by omega) hL.symm e
    · exact old j l1 b l2 (by omega) e
  · intro j j1 j2
    rw [hL] at j2
    by_cases w : j = aL s + 1
    · subst w
      rw [hX1, e1, e2, hk1]
      have := g.own hy.1
      exact ⟨hr, h6, by omega, [], tRun, rfl, Or.inr rfl⟩
    · obtain ⟨a1, a2, a3, n, z, a4, a5⟩ := jl j j1 (by omega)
      rw [hX j (by omega), e1, e2]
      refine ⟨a1, a2, a3, ?_⟩
      by_cases w2 : j = aL s
      · subst w2
        rw [hk0]
        have a4 : topK s = n ++ [z] := a4
        rw [ht] at a4
        rcases List.eq_nil_or_concat l with el | ⟨l0, d, el⟩
        · exfalso
          rw [el] at a4
          have : n = [] ∧ (0, y, 0, 0, .nil) = z := by
            cases n with
            | nil => exact ⟨rfl, by simpa using a4⟩
            | cons q n => simp at a4
          rw [← this.2] at a5
          exact absurd a5 (show ¬ ((0 : Nat) = 9 ∨ (0 : Nat) = 12) by decide)
        · rw [el, List.concat_eq_append, ← List.cons_append] at a4
          have ed : d = z := by
            have := List.append_inj_right' a4 rfl
            simpa using this
          exact ⟨l0, d, by rw [el, List.concat_eq_append], by rw [ed]; exact a5⟩
      · rw [hk j (by omega)]
        exact ⟨n, z, a4, a5⟩
