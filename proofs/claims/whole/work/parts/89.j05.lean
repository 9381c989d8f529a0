/-! WHAT HOLDS IN EVERY RUN: things that change -/
theorem Ev.chg {s s' : Ac} {x : Nat} (hc : aC s ≤ aC s') (h : ∀ z, z < aC s → z ≠ x → aF s' z = aF s z) (hx : tW (aF s' x) = tW (aF s x)) (hk : 2 ≤ tK (aF s x)) (h7 : tK (aF s x) ≠ 7) : Ev s s' := ⟨hc, fun z hz => by
  by_cases e : z = x
  · subst e
    exact ⟨hx, fun q => absurd q h7, fun q => by omega, fun q => by omega⟩
  · rw [h z hz e]
    refine ⟨rfl, fun k => ⟨k, rfl⟩, fun k => ⟨k, rfl, rfl, rfl⟩, fun k => Cl.unb ?_⟩
    rw [root_no (by rw [h z hz e]; omega), h z hz e]
    exact k⟩
theorem up1_or {α : Type} {f : Nat → α} {x y : Nat} {v : α} : (y = x ∧ up1 f x v y = v) ∨ (y ≠ x ∧ up1 f x v y = f y) := by
  by_cases e : y = x
  · exact Or.inl ⟨e, by rw [e, up1_at]⟩
  · exact Or.inr ⟨e, up1_ne e⟩
/-- a thing becomes data without parts -/
theorem data_T {fs : List Fn} {s : Ac} {rk : Nat → Nat} {x k : Nat} (g : GR s rk) (jt : JT fs s) (hk : k < 2) : JT fs (data s x k none none) ∧ GR (data s x k none none) rk := by
  obtain ⟨t1, t2, t3⟩ := jt
  have ef : ∀ z, (z = x ∧ aF (data s x k none none) z = (1, k, none, none, tW (aF s x), tP (aF s x), tT (aF s x))) ∨ (z ≠ x ∧ aF (data s x k none none) z = aF s z) := fun z => up1_or
  refine ⟨⟨fun z hz => ?_, fun y z hy hz h1 h2 h3 h4 => ?_, t3⟩, fun z hz => ?_⟩
  · rcases ef z with ⟨e1, e2⟩ | ⟨e1, e2⟩
    · unfold ThO
      rw [e2]
      refine ⟨show (1 : Nat) < 8 by decide, show k < 100 by omega, fun q => (by cases q), fun _ => ⟨show k < 6 by omega, ?_, ?_⟩, fun q => (by cases q), fun q => absurd q (show ¬ 3 ≤ (1 : Nat) by decide), fun q => by cases q⟩
      · show false = decide (2 ≤ k)
        exact (decide_eq_false (by omega)).symm
      · show false = decide (4 ≤ k)
        exact (decide_eq_false (by omega)).symm
    · have := t1 z hz
      unfold ThO at this ⊢
      rw [e2]
      exact this
  · rcases ef y with ⟨e1, e2⟩ | ⟨e1, e2⟩
    · rw [e2] at h1
      cases h1
    · rcases ef z with ⟨f1, f2⟩ | ⟨f1, f2⟩
      · rw [f2] at h3
        rcases h3 with q | q
        · cases q
        · cases q.1
      · rw [e2] at h1 h2 h4
        rw [f2] at h3 h4
        exact t2 y z hy hz h1 h2 h3 h4
  · have tw : ∀ y, tW (aF (data s x k none none) y) = tW (aF s y) := fun y => by
      rcases ef y with ⟨f1, f2⟩ | ⟨f1, f2⟩
      · rw [f2, f1]
      · rw [f2]
    rcases ef z with ⟨e1, e2⟩ | ⟨e1, e2⟩
    · refine ⟨fun q => (by rw [e2] at q; cases q), fun y hy => ?_⟩
      unfold Ed at hy
      rw [e2] at hy
      rcases hy with q | ⟨_, q⟩ | ⟨q | q, _⟩
      · cases q
      · cases q
      · cases q
      · cases q.1
    · obtain ⟨g1, g2⟩ := g z hz
      refine ⟨fun q => (by rw [e2] at q ⊢; exact g1 q), fun y hy => ?_⟩
      unfold Ed at hy
      rw [e2] at hy
      rw [tw, tw]
      exact g2 y hy
/-- a thing becomes another one -/
theorem link_T {fs : List Fn} {s : Ac} {rk : Nat → Nat} {x y : Nat} (g : GR s rk) (t1 : ∀ x, x < aC s → ThO fs s x) (t2 : ∀ u z, u < aC s → z < aC s → u ≠ x → z ≠ x → tK (aF s u) = 2 → tT (aF s u) ≠ .nil → (tK (aF s z) = 6 ∨ (tK (aF s z) = 2 ∧ tT (aF s z) ≠ .nil)) → tP (aF s z) = tP (aF s u) → z = u) (t3 : NRs s) (hx : x < aC s) (hy : y < aC s) (hr : rk y < rk x) (hw : tW (aF s y) ≤ tW (aF s x)) : JT fs (link s x y) ∧ GR (link s x y) rk := by
  have ef : ∀ z, (z = x ∧ aF (link s x y) z = (7, tO (aF s x), some y, tB (aF s x), tW (aF s x), tP (aF s x), tT (aF s x))) ∨ (z ≠ x ∧ aF (link s x y) z = aF s z) := fun z => up1_or
  refine ⟨⟨fun z hz => ?_, fun u z hu hz h1 h2 h3 h4 => ?_, t3⟩, fun z hz => ?_⟩
  · rcases ef z with ⟨e1, e2⟩ | ⟨e1, e2⟩
    · unfold ThO
      rw [e2]
      exact ⟨show (7 : Nat) < 8 by decide, (t1 x hx).2.1, fun q => (by cases q), fun q => (by cases q), fun q => (by cases q), fun _ q => absurd q (show ¬ (7 : Nat) ≤ 5 by decide), fun q => by cases q⟩
    · have := t1 z hz
      unfold ThO at this ⊢
      rw [e2]
      exact this
  · rcases ef u with ⟨e1, e2⟩ | ⟨e1, e2⟩
    · rw [e2] at h1
      cases h1
    · rcases ef z with ⟨f1, f2⟩ | ⟨f1, f2⟩
      · rw [f2] at h3
        rcases h3 with q | q
        · cases q
        · cases q.1
      · rw [e2] at h1 h2 h4
        rw [f2] at h3 h4
        exact t2 u z hu hz e1 f1 h1 h2 h3 h4
  · have tw : ∀ y', tW (aF (link s x y) y') = tW (aF s y') := fun y' => by
      rcases ef y' with ⟨f1, f2⟩ | ⟨f1, f2⟩
      · rw [f2, f1]
      · rw [f2]
    rcases ef z with ⟨e1, e2⟩ | ⟨e1, e2⟩
    · refine ⟨fun q => (by rw [e2]; rfl), fun w hw2 => ?_⟩
      unfold Ed at hw2
      rw [e2] at hw2
      rcases hw2 with q | ⟨q, _⟩ | ⟨q | q, _⟩
      · cases q
        rw [tw, tw, e1]
        exact ⟨hy, hr, hw⟩
      · exact absurd rfl q
      · cases q
      · cases q.1
    · obtain ⟨g1, g2⟩ := g z hz
      refine ⟨fun q => (by rw [e2] at q ⊢; exact g1 q), fun w hw2 => ?_⟩
      unfold Ed at hw2
      rw [e2] at hw2
      rw [tw, tw]
      exact g2 w hw2
/-- a bound of all ranks -/
theorem rk_bd (rk : Nat → Nat) : ∀ n, ∃ M, ∀ x, x < n → rk x < M
  | 0 => ⟨0, fun x hx => by omega⟩
  | n + 1 => by
    obtain ⟨M, hM⟩ := rk_bd rk n
    refine ⟨M + rk n + 1, fun x hx => ?_⟩
    by_cases e : x = n
    · subst e
      omega
    · have := hM x (by omega)
      omega
/-- what can be reached from y stays, all else is lifted: then x may become y -/
noncomputable def rkB (s : Ac) (rk : Nat → Nat) (M y z : Nat) : Nat := by
  classical exact if Rc s y (root s z) then rk z else rk z + M
theorem rkB_in {s : Ac} {rk : Nat → Nat} {M y z : Nat} (h : Rc s y (root s z)) : rkB s rk M y z = rk z := by
  unfold rkB
  exact if_pos h
theorem rkB_out {s : Ac} {rk : Nat → Nat} {M y z : Nat} (h : ¬ Rc s y (root s z)) : rkB s rk M y z = rk z + M := by
  unfold rkB
  exact if_neg h
theorem Rc.lt {s : Ac} {rk : Nat → Nat} (g : GR s rk) {y z : Nat} (hy : y < aC s) (h : Rc s y z) : z < aC s ∧ rk z ≤ rk y ∧ tW (aF s z) ≤ tW (aF s y) := by
  refine h.ind (P := fun z => z < aC s ∧ rk z ≤ rk y ∧ tW (aF s z) ≤ tW (aF s y)) ⟨g.lt hy, g.le hy, g.own hy⟩ (fun z w hz hk hw => ?_)
  obtain ⟨q1, q2, q3⟩ := g.pa hz.1 (by omega) hw
  exact ⟨g.lt q1, by have := g.le q1; omega, by have := g.own q1; omega⟩
theorem rkB_GR {s : Ac} {rk : Nat → Nat} {M y : Nat} (g : GR s rk) (hM : ∀ x, x < aC s → rk x < M) (hc : Cl s y) (ho : ∀ x, x < aC s → tK (aF s x) = 0 → tA (aF s x) = none ∧ tB (aF s x) = none) : GR s (rkB s rk M y) := fun z hz => by
  obtain ⟨g1, g2⟩ := g z hz
  refine ⟨g1, fun w hw => ?_⟩
  obtain ⟨q1, q2, q3⟩ := g2 w hw
  refine ⟨q1, ?_, q3⟩
  by_cases e : Rc s y (root s z)
  · have ew : Rc s y (root s w) := by
      by_cases k7 : tK (aF s z) = 7
      · have e2 : root s z = root s w := by
          rcases hw with q | ⟨q, _⟩ | ⟨q | q, _⟩
          · exact root_lk g.lk hz k7 q
          · exact absurd k7 q
          · omega
          · omega
        rw [← e2]
        exact e
      · have ez : root s z = z := root_no k7
        rw [ez] at e
        have hk := hc z e
        rcases hw with q | ⟨_, q⟩ | ⟨q | q, _⟩
        · by_cases k1 : tK (aF s z) = 1
          · exact e.more k1 (Or.inl q)
          · have := (ho z hz (by omega)).1
            rw [this] at q
            cases q
        · by_cases k1 : tK (aF s z) = 1
          · exact e.more k1 (Or.inr q)
          · have := (ho z hz (by omega)).2
            rw [this] at q
            cases q
        · omega
        · omega
    rw [rkB_in e, rkB_in ew]
    exact q2
  · rw [rkB_out e]
    by_cases ew : Rc s y (root s w)
    · rw [rkB_in ew]
      omega
    · rw [rkB_out ew]
      omega
/-- what is unbound becomes another thing -/
theorem link_Ev {s : Ac} {rk rk' : Nat → Nat} {x y : Nat} (g : GR s rk) (g' : GR (link s x y) rk') (hx : x < aC s) (hy : y < aC s) (hk : tK (aF s x) = 0) (hc : Cl s y) (hr : rk' y < rk' x) (hrr : ∀ z, Rc s y z → z ≠ x) : Ev s (link s x y) := by
  have ef : ∀ z, (z = x ∧ aF (link s x y) z = (7, tO (aF s x), some y, tB (aF s x), tW (aF s x), tP (aF s x), tT (aF s x))) ∨ (z ≠ x ∧ aF (link s x y) z = aF s z) := fun z => up1_or
  have r1 : ∀ (d z : Nat), rk z < d → z < aC s → root (link s x y) z = if root s z = x then root (link s x y) y else root s z := by
    intro d
    induction d with
    | zero => intro z h; omega
    | succ d ih =>
      intro z hd hz
      rcases ef z with ⟨e1, e2⟩ | ⟨e1, e2⟩
      · subst e1
        rw [root_no (s := s) (by omega), if_pos rfl]
        exact root_lk g'.lk (show z < aC s from hx) (by rw [e2]) (by rw [e2])
      · by_cases k7 : tK (aF s z) = 7
        · obtain ⟨w, h1, h2, h3⟩ := g.lk z hz k7
          rw [root_lk g'.lk (show z < aC s from hz) (by rw [e2]; exact k7) (by rw [e2]; exact h1), root_lk g.lk hz k7 h1]
          exact ih w (by omega) h2
        · rw [root_no (s := link s x y) (by rw [e2]; exact k7), root_no (s := s) k7, if_neg e1]
  have rt : ∀ z, z < aC s → root (link s x y) z = if root s z = x then root (link s x y) y else root s z := fun z hz => r1 _ z (Nat.lt_succ_self _) hz
  have ry : root (link s x y) y = root s y := by
    rw [rt y hy, if_neg (hrr _ Rc.self)]
  have cy : Cl (link s x y) y := by
    intro z hz
    have : Rc s y z := by
      refine hz.ind (P := fun z => Rc s y z) ?_ (fun u w hu hk2 hw => ?_)
      · rw [ry]
        exact Rc.self
      · have hux := hrr u hu
        rcases ef u with ⟨e1, _⟩ | ⟨_, e2⟩
        · exact absurd e1 hux
        · rw [e2] at hk2 hw
          have hm := hu.more hk2 hw
          have hul := (Rc.lt g hy hu).1
          have hwl := (g.pa hul (by omega) hw).1
          rw [rt w hwl, if_neg (hrr _ hm)]
          exact hm
    rcases ef z with ⟨e1, _⟩ | ⟨_, e2⟩
    · exact absurd e1 (hrr z this)
    · rw [e2]
      exact hc z this
  refine ⟨Nat.le_refl _, fun z hz => ?_⟩
  rcases ef z with ⟨e1, e2⟩ | ⟨e1, e2⟩
  · rw [e2]
    subst e1
    refine ⟨rfl, fun q => by omega, fun q => by omega, fun _ => cy.ro ?_⟩
    rw [rt z hz, root_no (s := s) (by omega), if_pos rfl]
  · rw [e2]
    refine ⟨rfl, fun k => ⟨k, rfl⟩, fun k => ⟨k, rfl, rfl, rfl⟩, fun k => Cl.unb ?_⟩
    rw [root_no (by rw [e2]; omega), e2]
    exact k
