/-! WHAT HOLDS IN EVERY RUN: things that are made -/
def takeT (s : Ac) (x : Nat) (R : Rl) : Ac := sN (sT s (aC s) (up1 (aF s) x (tK (aF s x), tO (aF s x), tA (aF s x), tB (aF s x), tW (aF s x), aP s, R.2.2))) (aP s + 1) (up1 (aN s) (aP s) (fun _ => none))
theorem take_T {fs : List Fn} {s : Ac} {rk : Nat → Nat} {x : Nat} {R : Rl} (g : GR s rk) (jt : JT fs s) (hx : x < aC s) (h2 : tK (aF s x) = 2) (hR : twf fs.length (fpf fs) R.2.2 ∧ tsz R.2.2 ≤ 12) : JT fs (takeT s x R) ∧ GR (takeT s x R) rk ∧ Ev s (takeT s x R) := by
  obtain ⟨t1, t2, t3⟩ := jt
  have ef : ∀ z, (z = x ∧ aF (takeT s x R) z = (tK (aF s x), tO (aF s x), tA (aF s x), tB (aF s x), tW (aF s x), aP s, R.2.2)) ∨ (z ≠ x ∧ aF (takeT s x R) z = aF s z) := fun z => up1_or
  have en : ∀ p, (p = aP s ∧ aN (takeT s x R) p = fun _ => none) ∨ (p ≠ aP s ∧ aN (takeT s x R) p = aN s p) := fun z => up1_or
  have hp : ∀ z, z < aC s → (tK (aF s z) = 6 ∨ (tK (aF s z) = 2 ∧ tT (aF s z) ≠ .nil)) → tP (aF s z) < aP s := fun z hz q => by
    obtain ⟨a1, a2, a3, a4, a5, a6, a7⟩ := t1 z hz
    rcases q with q | ⟨q, q2⟩
    · exact (a7 q).2.2.1
    · exact ((a5 q).2 q2).2.2
  refine ⟨⟨fun z hz => ?_, fun u z hu hz h1 h2 h3 h4 => ?_, fun p k y h => ?_⟩, fun z hz => ?_, Ev.chg (x := x) (Nat.le_refl _) (fun z hz hzx => up1_ne hzx) (by show tW (up1 _ _ _ _) = _; rw [up1_at]) (by omega) (by omega)⟩
  · obtain ⟨a1, a2, a3, a4, a5, a6, a7⟩ := t1 z hz
    rcases ef z with ⟨e1, e2⟩ | ⟨e1, e2⟩
    · subst e1
      unfold ThO
      rw [e2]
      refine ⟨a1, a2, a3, a4, fun q => ⟨(a5 q).1, fun _ => ⟨hR.1, hR.2, Nat.lt_succ_self _⟩⟩, a6, fun q => ?_⟩
      have q : tK (aF s z) = 6 := q
      omega
    · unfold ThO
      rw [e2]
      refine ⟨a1, a2, a3, a4, fun q => ⟨(a5 q).1, fun q2 => ⟨((a5 q).2 q2).1, ((a5 q).2 q2).2.1, Nat.lt_succ_of_lt ((a5 q).2 q2).2.2⟩⟩, a6, fun q => ?_⟩
      obtain ⟨b1, b2, b3, b4⟩ := a7 q
      refine ⟨b1, b2, Nat.lt_succ_of_lt b3, ?_⟩
      rcases en (tP (aF s z)) with ⟨f1, _⟩ | ⟨_, f2⟩
      · omega
      · rw [f2]
        exact b4
  · rcases ef u with ⟨e1, e2⟩ | ⟨e1, e2⟩
    · rcases ef z with ⟨f1, f2⟩ | ⟨f1, f2⟩
      · rw [e1, f1]
      · rw [e2] at h4
        rw [f2] at h3 h4
        have h4 : tP (aF s z) = aP s := h4
        have := hp z hz h3
        omega
    · rw [e2] at h1 h2 h4
      rcases ef z with ⟨f1, f2⟩ | ⟨f1, f2⟩
      · rw [f2] at h4
        have h4 : aP s = tP (aF s u) := h4
        have := hp u hu (Or.inr ⟨h1, h2⟩)
        omega
      · rw [f2] at h3 h4
        exact t2 u z hu hz h1 h2 h3 h4
  · rcases en p with ⟨_, f2⟩ | ⟨_, f2⟩
    · rw [f2] at h
      cases h
    · rw [f2] at h
      exact t3 p k y h
  · have tw : ∀ y, tW (aF (takeT s x R) y) = tW (aF s y) := fun y => by
      rcases ef y with ⟨f1, f2⟩ | ⟨f1, f2⟩
      · rw [f2, f1]
      · rw [f2]
    obtain ⟨g1, g2⟩ := g z hz
    rcases ef z with ⟨e1, e2⟩ | ⟨e1, e2⟩
    · subst e1
      refine ⟨fun q => (by rw [e2] at q ⊢; exact g1 q), fun y hy => ?_⟩
      rw [tw, tw]
      unfold Ed at hy
      rw [e2] at hy
      rcases hy with q | q | ⟨_, k, q⟩
      · exact g2 y (Or.inl q)
      · exact g2 y (Or.inr (Or.inl q))
      · have q : aN (takeT s z R) (aP s) k = some y := q
        rcases en (aP s) with ⟨_, f2⟩ | ⟨f1, _⟩
        · rw [f2] at q
          cases q
        · exact absurd rfl f1
    · refine ⟨fun q => (by rw [e2] at q ⊢; exact g1 q), fun y hy => ?_⟩
      rw [tw, tw]
      unfold Ed at hy
      rw [e2] at hy
      rcases hy with q | q | ⟨q1, k, q⟩
      · exact g2 y (Or.inl q)
      · exact g2 y (Or.inr (Or.inl q))
      · rcases en (tP (aF s z)) with ⟨f1, _⟩ | ⟨_, f2⟩
        · have := hp z hz q1
          omega
        · rw [f2] at q
          exact g2 y (Or.inr (Or.inr ⟨q1, k, q⟩))
theorem name_T {fs : List Fn} {s : Ac} {rk : Nat → Nat} {c k y : Nat} (g : GR s rk) (jt : JT fs s) (hc : c < aC s) (h2 : tK (aF s c) = 2) (hn : tT (aF s c) ≠ .nil) (hy : y < aC s) (hr : rk y < rk c) (hw : tW (aF s y) ≤ tW (aF s c)) : JT fs (nameA s c k y) ∧ GR (nameA s c k y) rk := by
  obtain ⟨t1, t2, t3⟩ := jt
  have en : ∀ p, (p = tP (aF s c) ∧ aN (nameA s c k y) p = up1 (aN s (tP (aF s c))) k (some y)) ∨ (p ≠ tP (aF s c) ∧ aN (nameA s c k y) p = aN s p) := fun z => up1_or
  refine ⟨⟨fun z hz => ?_, t2, fun p k' y' h => ?_⟩, fun z hz => ?_⟩
  · obtain ⟨a1, a2, a3, a4, a5, a6, a7⟩ := t1 z hz
    refine ⟨a1, a2, a3, a4, a5, a6, fun q => ?_⟩
    obtain ⟨b1, b2, b3, b4⟩ := a7 q
    refine ⟨b1, b2, b3, ?_⟩
    rcases en (tP (aF s z)) with ⟨f1, _⟩ | ⟨_, f2⟩
    · have q : tK (aF s z) = 6 := q
      have := t2 c z hc hz h2 hn (Or.inl q) f1
      subst this
      omega
    · show NmO (aN (nameA s c k y) (tP (aF s z))) _ _
      rw [f2]
      exact b4
  · rcases en p with ⟨f1, f2⟩ | ⟨_, f2⟩
    · rw [f2] at h
      rcases up1_or (f := aN s (tP (aF s c))) (x := k) (y := k') (v := some y) with ⟨_, e2⟩ | ⟨_, e2⟩
      · rw [e2] at h
        cases h
        exact hy
      · rw [e2] at h
        exact t3 _ _ _ h
    · rw [f2] at h
      exact t3 p k' y' h
  · obtain ⟨g1, g2⟩ := g z hz
    refine ⟨g1, fun w hw2 => ?_⟩
    rcases hw2 with q | q | ⟨q1, k', q⟩
    · exact g2 w (Or.inl q)
    · exact g2 w (Or.inr (Or.inl q))
    · rcases en (tP (aF s z)) with ⟨f1, f2⟩ | ⟨_, f2⟩
      · have := t2 c z hc hz h2 hn q1 f1
        subst this
        have q : aN (nameA s z k y) (tP (aF s z)) k' = some w := q
        rw [f2] at q
        rcases up1_or (f := aN s (tP (aF s z))) (x := k) (y := k') (v := some y) with ⟨_, e2⟩ | ⟨_, e2⟩
        · rw [e2] at q
          cases q
          exact ⟨hy, hr, hw⟩
        · rw [e2] at q
          exact g2 w (Or.inr (Or.inr ⟨q1, k', q⟩))
      · have q : aN (nameA s c k y) (tP (aF s z)) k' = some w := q
        rw [f2] at q
        exact g2 w (Or.inr (Or.inr ⟨q1, k', q⟩))
/-- an unbound thing becomes data with new unbound parts -/
def metT (s : Ac) (x k : Nat) : Ac := data (addT s (List.replicate (k / 2) (tOpen (tW (aF s x))))) x k (if 2 ≤ k then some (aC s) else none) (if 4 ≤ k then some (aC s + 1) else none)
def rk2 (rk : Nat → Nat) (n x z : Nat) : Nat := if z < n then 2 * rk z + 1 else 2 * rk x
theorem rk2_lt {rk : Nat → Nat} {n x z : Nat} (h : z < n) : rk2 rk n x z = 2 * rk z + 1 := if_pos h
theorem met_T {fs : List Fn} {s : Ac} {rk : Nat → Nat} {x k : Nat} (g : GR s rk) (jt : JT fs s) (hx : x < aC s) (h0 : tK (aF s x) = 0) (hk : k < 6) : JT fs (metT s x k) ∧ GR (metT s x k) (rk2 rk (aC s) x) ∧ Ev s (metT s x k) ∧ aC (metT s x k) = aC s + k / 2 := by
  obtain ⟨t1, t2, t3⟩ := jt
  have hC : aC (metT s x k) = aC s + k / 2 := by
    show aC s + (List.replicate (k / 2) (tOpen (tW (aF s x)))).length = _
    rw [List.length_replicate]
  have ef : ∀ z, z < aC s → (z = x ∧ aF (metT s x k) z = (1, k, (if 2 ≤ k then some (aC s) else none), (if 4 ≤ k then some (aC s + 1) else none), tW (aF s x), tP (aF s x), tT (aF s x))) ∨ (z ≠ x ∧ aF (metT s x k) z = aF s z) := fun z hz => by
    rcases up1_or (f := aF (addT s (List.replicate (k / 2) (tOpen (tW (aF s x)))))) (x := x) (y := z) (v := (1, k, (if 2 ≤ k then some (aC s) else none), (if 4 ≤ k then some (aC s + 1) else none), tW (aF (addT s (List.replicate (k / 2) (tOpen (tW (aF s x))))) x), tP (aF (addT s (List.replicate (k / 2) (tOpen (tW (aF s x))))) x), tT (aF (addT s (List.replicate (k / 2) (tOpen (tW (aF s x))))) x))) with ⟨e1, e2⟩ | ⟨e1, e2⟩
    · refine Or.inl ⟨e1, e2.trans ?_⟩
      rw [show aF (addT s (List.replicate (k / 2) (tOpen (tW (aF s x))))) x = aF s x from app_lt hx]
    · exact Or.inr ⟨e1, e2.trans (app_lt hz)⟩
  have en : ∀ z, aC s ≤ z → z < aC s + k / 2 → aF (metT s x k) z = tOpen (tW (aF s x)) := fun z z1 z2 => by
    have : aF (metT s x k) z = aF (addT s (List.replicate (k / 2) (tOpen (tW (aF s x))))) z := up1_ne (by omega)
    rw [this]
    obtain ⟨i, rfl⟩ := Nat.le.dest z1
    refine app_at ?_
    rw [List.getElem?_replicate, if_pos (by omega)]
  have hA : ∀ y, ((if 2 ≤ k then some (aC s) else none) = some y ∨ (if 4 ≤ k then some (aC s + 1) else none) = some y) → aC s ≤ y ∧ y < aC s + k / 2 := fun y q => by
    rcases q with q | q
    · split at q
      · cases q
        omega
      · cases q
    · split at q
      · cases q
        omega
      · cases q
  have hG : GR (metT s x k) (rk2 rk (aC s) x) := fun z hz => by
    rw [hC] at hz
    by_cases zn : z < aC s
    · rcases ef z zn with ⟨e1, e2⟩ | ⟨e1, e2⟩
      · rw [e2]
        refine ⟨fun q => (by cases q), fun y hy => ?_⟩
        unfold Ed at hy
        rw [e2] at hy
        have hy : ((if 2 ≤ k then some (aC s) else none) = some y ∨ (if 4 ≤ k then some (aC s + 1) else none) = some y) := by
          rcases hy with q | ⟨_, q⟩ | ⟨q | q, _⟩
          · exact Or.inl q
          · exact Or.inr q
          · cases q
          · cases q.1
        obtain ⟨y1, y2⟩ := hA y hy
        rw [en y y1 y2, rk2_lt zn, hC]
        refine ⟨y2, ?_, Nat.le_refl _⟩
        unfold rk2
        rw [if_neg (by omega), e1]
        omega
      · obtain ⟨g1, g2⟩ := g z zn
        refine ⟨fun q => (by rw [e2] at q ⊢; exact g1 q), fun y hy => ?_⟩
        unfold Ed at hy
        rw [e2] at hy
        obtain ⟨q1, q2, q3⟩ := g2 y hy
        rw [rk2_lt zn, rk2_lt q1, hC, e2]
        refine ⟨by omega, by omega, ?_⟩
        rcases ef y q1 with ⟨f1, f2⟩ | ⟨f1, f2⟩
        · rw [f2]
          rw [f1] at q3
          exact q3
        · rw [f2]
          exact q3
    · have e2 := en z (by omega) hz
      refine ⟨fun q => (by rw [e2] at q; cases q), fun y hy => ?_⟩
      unfold Ed at hy
      rw [e2] at hy
      rcases hy with q | ⟨_, q⟩ | ⟨q | q, _⟩
      · cases q
      · cases q
      · cases q
      · cases q.1
  refine ⟨⟨fun z hz => ?_, fun u z hu hz h1 h2 h3 h4 => ?_, fun p k' y h => ?_⟩, hG, ⟨by rw [hC]; omega, fun z hz => ?_⟩, hC⟩
  · rw [hC] at hz
    by_cases zn : z < aC s
    · rcases ef z zn with ⟨e1, e2⟩ | ⟨e1, e2⟩
      · unfold ThO
        rw [e2]
        refine ⟨show (1 : Nat) < 8 by decide, show k < 100 by omega, fun q => (by cases q), fun _ => ⟨hk, ?_, ?_⟩, fun q => (by cases q), fun q => absurd q (show ¬ 3 ≤ (1 : Nat) by decide), fun q => by cases q⟩
        · show (if 2 ≤ k then some (aC s) else none).isSome = decide (2 ≤ k)
          split
          · rename_i w
            exact (decide_eq_true w).symm
          · rename_i w
            exact (decide_eq_false w).symm
        · show (if 4 ≤ k then some (aC s + 1) else none).isSome = decide (4 ≤ k)
          split
          · rename_i w
            exact (decide_eq_true w).symm
          · rename_i w
            exact (decide_eq_false w).symm
      · obtain ⟨a1, a2, a3, a4, a5, a6, a7⟩ := t1 z zn
        unfold ThO
        rw [e2]
        refine ⟨a1, a2, a3, a4, a5, a6, fun q => ?_⟩
        obtain ⟨b1, b2, b3, b4⟩ := a7 q
        exact ⟨b1, b2, b3, b4.le (by rw [hC]; omega)⟩
    · unfold ThO
      rw [en z (by omega) hz]
      exact ⟨show (0 : Nat) < 8 by decide, show (0 : Nat) < 100 by decide, fun _ => ⟨rfl, rfl⟩, fun q => (by cases q), fun q => (by cases q), fun q => absurd q (show ¬ 3 ≤ (0 : Nat) by decide), fun q => by cases q⟩
  · rw [hC] at hu hz
    have old : ∀ w, w < aC s + k / 2 → (tK (aF (metT s x k) w) = 6 ∨ (tK (aF (metT s x k) w) = 2 ∧ tT (aF (metT s x k) w) ≠ .nil)) → w < aC s ∧ aF (metT s x k) w = aF s w := fun w hw q => by
      by_cases wn : w < aC s
      · rcases ef w wn with ⟨e1, e2⟩ | ⟨e1, e2⟩
        · rw [e2] at q
          rcases q with q | q
          · cases q
          · cases q.1
        · exact ⟨wn, e2⟩
      · rw [en w (by omega) hw] at q
        rcases q with q | q
        · cases q
        · cases q.1
    obtain ⟨u1, u2⟩ := old u hu (Or.inr ⟨h1, h2⟩)
    obtain ⟨z1, z2⟩ := old z hz h3
    rw [u2] at h1 h2 h4
    rw [z2] at h3 h4
    exact t2 u z u1 z1 h1 h2 h3 h4
  · have := t3 p k' y h
    rw [hC]
    omega
  · rcases ef z hz with ⟨e1, e2⟩ | ⟨e1, e2⟩
    · rw [e2, e1]
      refine ⟨rfl, fun q => by omega, fun q => by omega, fun _ => ?_⟩
      rw [e1] at e2
      have hr : root (metT s x k) x = x := root_no (by rw [e2]; exact (show (1 : Nat) ≠ 7 by decide))
      refine Cl_iff.mpr ⟨by rw [hr, e2]; exact (show (1 : Nat) < 2 by decide), fun w _ hw => ?_⟩
      rw [hr] at hw
      unfold Pa at hw
      rw [e2] at hw
      obtain ⟨y1, y2⟩ := hA w hw
      have ew := en w y1 y2
      exact Cl.unb (by rw [root_no (by rw [ew]; exact (show (0 : Nat) ≠ 7 by decide)), ew]; rfl)
    · rw [e2]
      refine ⟨rfl, fun q => ⟨q, rfl⟩, fun q => ⟨q, rfl, rfl, rfl⟩, fun q => Cl.unb ?_⟩
      rw [root_no (by rw [e2]; omega), e2]
      exact q
