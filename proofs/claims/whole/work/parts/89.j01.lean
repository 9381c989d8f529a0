/-! WHAT HOLDS IN EVERY RUN: what a thing leads to, ranks, what may come of a thing -/
def Ed (s : Ac) (x y : Nat) : Prop := tA (aF s x) = some y ∨ (tK (aF s x) ≠ 7 ∧ tB (aF s x) = some y) ∨ ((tK (aF s x) = 6 ∨ (tK (aF s x) = 2 ∧ tT (aF s x) ≠ .nil)) ∧ ∃ k, aN s (tP (aF s x)) k = some y)
/-- ranks fall, and owners do not rise -/
def GR (s : Ac) (rk : Nat → Nat) : Prop := ∀ x, x < aC s → (tK (aF s x) = 7 → (tA (aF s x)).isSome = true) ∧ ∀ y, Ed s x y → y < aC s ∧ rk y < rk x ∧ tW (aF s y) ≤ tW (aF s x)
theorem GR.lk {s : Ac} {rk : Nat → Nat} (h : GR s rk) : LkR (aC s) (aF s) rk := fun x hx hk => by
  obtain ⟨h1, h2⟩ := h x hx
  obtain ⟨y, hy⟩ := Option.isSome_iff_exists.mp (h1 hk)
  exact ⟨y, hy, (h2 y (Or.inl hy)).1, (h2 y (Or.inl hy)).2.1⟩
theorem GR.lt {s : Ac} {rk : Nat → Nat} (h : GR s rk) {x : Nat} (hx : x < aC s) : root s x < aC s := (root_end h.lk hx).2
theorem GR.n7 {s : Ac} {rk : Nat → Nat} (h : GR s rk) {x : Nat} (hx : x < aC s) : tK (aF s (root s x)) ≠ 7 := (root_end h.lk hx).1
theorem GR.le {s : Ac} {rk : Nat → Nat} (h : GR s rk) {x : Nat} (hx : x < aC s) : rk (root s x) ≤ rk x := root_rk h.lk (rk x + 1) x (Nat.lt_succ_self _) hx
theorem GR.ow {s : Ac} {rk : Nat → Nat} (h : GR s rk) : ∀ (d x : Nat), rk x < d → x < aC s → tW (aF s (root s x)) ≤ tW (aF s x) := by
  intro d
  induction d with
  | zero => intro x h1; omega
  | succ d ih =>
    intro x h1 hx
    by_cases e : tK (aF s x) = 7
    · obtain ⟨y, h2, h3, h4⟩ := h.lk x hx e
      rw [root_lk h.lk hx e h2]
      have := ih y (by omega) h3
      have := ((h x hx).2 y (Or.inl h2)).2.2
      omega
    · rw [root_no e]
      exact Nat.le_refl _
theorem GR.own {s : Ac} {rk : Nat → Nat} (h : GR s rk) {x : Nat} (hx : x < aC s) : tW (aF s (root s x)) ≤ tW (aF s x) := h.ow _ x (Nat.lt_succ_self _) hx
theorem GR.rr {s : Ac} {rk : Nat → Nat} (h : GR s rk) {x : Nat} (hx : x < aC s) : root s (root s x) = root s x := root_no (h.n7 hx)
/-- parts of data -/
def Pa (s : Ac) (x w : Nat) : Prop := tA (aF s x) = some w ∨ tB (aF s x) = some w
theorem Rc.cons {s : Ac} {y w z : Nat} (hk : tK (aF s (root s y)) = 1) (hw : Pa s (root s y) w) (h : Rc s w z) : Rc s y z := by
  obtain ⟨n, p, h0, h1, h2⟩ := h
  refine ⟨n + 1, fun i => if i = 0 then root s y else p (i - 1), if_pos rfl, ?_, fun i hi => ?_⟩
  · show (if n + 1 = 0 then root s y else p (n + 1 - 1)) = z
    rw [if_neg (by omega), Nat.add_sub_cancel]
    exact h1
  · by_cases e : i = 0
    · subst e
      refine ⟨hk, w, hw, ?_⟩
      show p 0 = _
      exact h0
    · have := h2 (i - 1) (by omega)
      show tK (aF s (if i = 0 then root s y else p (i - 1))) = 1 ∧ ∃ w, (tA (aF s (if i = 0 then root s y else p (i - 1))) = some w ∨ tB (aF s (if i = 0 then root s y else p (i - 1))) = some w) ∧ (if i + 1 = 0 then root s y else p (i + 1 - 1)) = root s w
      rw [if_neg e, if_neg (by omega), show i + 1 - 1 = i - 1 + 1 by omega]
      exact this
theorem Rc.uncons {s : Ac} {y z : Nat} (h : Rc s y z) : z = root s y ∨ (tK (aF s (root s y)) = 1 ∧ ∃ w, Pa s (root s y) w ∧ Rc s w z) := by
  obtain ⟨n, p, h0, h1, h2⟩ := h
  cases n with
  | zero => exact Or.inl (h1.symm.trans h0)
  | succ n =>
    obtain ⟨k, w, hw, e⟩ := h2 0 (by omega)
    rw [h0] at k hw
    exact Or.inr ⟨k, w, hw, n, fun i => p (i + 1), e, h1, fun i hi => h2 (i + 1) (by omega)⟩
theorem Cl_iff {s : Ac} {y : Nat} : Cl s y ↔ tK (aF s (root s y)) < 2 ∧ ∀ w, tK (aF s (root s y)) = 1 → Pa s (root s y) w → Cl s w := by
  constructor
  · intro h
    exact ⟨h _ Rc.self, fun w hk hw z hz => h z (Rc.cons hk hw hz)⟩
  · intro h z hz
    rcases hz.uncons with e | ⟨hk, w, hw, h2⟩
    · rw [e]
      exact h.1
    · exact h.2 w hk hw z h2
theorem Cl.ro {s : Ac} {x y : Nat} (h : Cl s x) (e : root s x = root s y) : Cl s y := by
  rw [Cl_iff] at h ⊢
  rw [← e]
  exact h
theorem Cl.unb {s : Ac} {x : Nat} (h : tK (aF s (root s x)) = 0) : Cl s x := Cl_iff.mpr ⟨by omega, fun w hk => by omega⟩
/-- what comes of things: ends and data stay, what is unbound comes to be unbound or data through and through -/
def Ev (s s' : Ac) : Prop := aC s ≤ aC s' ∧ ∀ x, x < aC s → tW (aF s' x) = tW (aF s x) ∧ (tK (aF s x) = 7 → tK (aF s' x) = 7 ∧ tA (aF s' x) = tA (aF s x)) ∧ (tK (aF s x) = 1 → tK (aF s' x) = 1 ∧ tO (aF s' x) = tO (aF s x) ∧ tA (aF s' x) = tA (aF s x) ∧ tB (aF s' x) = tB (aF s x)) ∧ (tK (aF s x) = 0 → Cl s' x)
theorem Ev.rt0 {s s' : Ac} {rk rk' : Nat → Nat} (h : Ev s s') (g : GR s rk) (g' : GR s' rk') : ∀ (d x : Nat), rk x < d → x < aC s → root s' x = root s' (root s x) := by
  intro d
  induction d with
  | zero => intro x h1; omega
  | succ d ih =>
    intro x h1 hx
    by_cases e : tK (aF s x) = 7
    · obtain ⟨y, h2, h3, h4⟩ := g.lk x hx e
      obtain ⟨e1, e2⟩ := (h.2 x hx).2.1 e
      rw [root_lk g.lk hx e h2, root_lk g'.lk (Nat.lt_of_lt_of_le hx h.1) e1 (e2.trans h2)]
      exact ih y (by omega) h3
    · rw [root_no e]
theorem Ev.rt {s s' : Ac} {rk rk' : Nat → Nat} (h : Ev s s') (g : GR s rk) (g' : GR s' rk') {x : Nat} (hx : x < aC s) : root s' x = root s' (root s x) := h.rt0 g g' _ x (Nat.lt_succ_self _) hx
theorem Ev.req {s s' : Ac} {rk rk' : Nat → Nat} (h : Ev s s') (g : GR s rk) (g' : GR s' rk') {x y : Nat} (hx : x < aC s) (hy : y < aC s) (e : root s x = root s y) : root s' x = root s' y := by
  rw [h.rt g g' hx, h.rt g g' hy, e]
theorem Ev.cl0 {s s' : Ac} {rk rk' : Nat → Nat} (h : Ev s s') (g : GR s rk) (g' : GR s' rk') : ∀ (d x : Nat), rk x < d → x < aC s → Cl s x → Cl s' x := by
  intro d
  induction d with
  | zero => intro x h1; omega
  | succ d ih =>
    intro x h1 hx hc
    have hr := g.lt hx
    have hle := g.le hx
    obtain ⟨c1, c2⟩ := Cl_iff.mp hc
    obtain ⟨e1, e2, e3, e4⟩ := h.2 (root s x) hr
    by_cases k : tK (aF s (root s x)) = 0
    · exact (e4 k).ro (h.rt g g' hx).symm
    · have k1 : tK (aF s (root s x)) = 1 := by omega
      obtain ⟨f1, f2, f3, f4⟩ := e3 k1
      have hroot : root s' x = root s x := by
        rw [h.rt g g' hx]
        exact root_no (by omega)
      refine Cl_iff.mpr ⟨by rw [hroot]; omega, fun w _ hw => ?_⟩
      rw [hroot] at hw
      have hw' : Pa s (root s x) w := by
        unfold Pa at hw ⊢
        rw [f3, f4] at hw
        exact hw
      have hed : Ed s (root s x) w := hw'.elim Or.inl (fun q => Or.inr (Or.inl ⟨by omega, q⟩))
      obtain ⟨q1, q2, q3⟩ := (g _ hr).2 w hed
      exact ih w (by omega) q1 (c2 w k1 hw')
theorem Ev.cl {s s' : Ac} {rk rk' : Nat → Nat} (h : Ev s s') (g : GR s rk) (g' : GR s' rk') {x : Nat} (hx : x < aC s) (hc : Cl s x) : Cl s' x := h.cl0 g g' _ x (Nat.lt_succ_self _) hx hc
/-- what is forced stays so -/
theorem Ev.fo {s s' : Ac} {rk rk' : Nat → Nat} (h : Ev s s') (g : GR s rk) (g' : GR s' rk') {x : Nat} (hx : x < aC s) (hk : tK (aF s (root s x)) < 2) : tK (aF s' (root s' x)) < 2 := by
  have hr := g.lt hx
  obtain ⟨e1, e2, e3, e4⟩ := h.2 (root s x) hr
  rw [h.rt g g' hx]
  by_cases k : tK (aF s (root s x)) = 0
  · exact (Cl_iff.mp (e4 k)).1
  · rw [root_no (by rw [(e3 (by omega)).1]; decide), (e3 (by omega)).1]
    decide
theorem Ev.trans {s s' s'' : Ac} {rk' rk'' : Nat → Nat} (h : Ev s s') (h' : Ev s' s'') (g' : GR s' rk') (g'' : GR s'' rk'') : Ev s s'' := by
  refine ⟨Nat.le_trans h.1 h'.1, fun x hx => ?_⟩
  obtain ⟨a1, a2, a3, a4⟩ := h.2 x hx
  have hx' := Nat.lt_of_lt_of_le hx h.1
  obtain ⟨b1, b2, b3, b4⟩ := h'.2 x hx'
  refine ⟨b1.trans a1, fun k => ?_, fun k => ?_, fun k => h'.cl g' g'' hx' (a4 k)⟩
  · obtain ⟨c1, c2⟩ := a2 k
    exact ⟨(b2 c1).1, (b2 c1).2.trans c2⟩
  · obtain ⟨c1, c2, c3, c4⟩ := a3 k
    obtain ⟨d1, d2, d3, d4⟩ := b3 c1
    exact ⟨d1, d2.trans c2, d3.trans c3, d4.trans c4⟩
/-- things that are as they were -/
theorem Ev.same {s s' : Ac} (hc : aC s ≤ aC s') (hf : ∀ x, x < aC s → aF s' x = aF s x) : Ev s s' := ⟨hc, fun x hx => by
  rw [hf x hx]
  refine ⟨rfl, fun k => ⟨k, rfl⟩, fun k => ⟨k, rfl, rfl, rfl⟩, fun k => Cl.unb ?_⟩
  rw [root_no (by rw [hf x hx]; omega), hf x hx]
  exact k⟩
