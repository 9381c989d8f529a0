/-! WHAT HOLDS IN EVERY RUN: tasks -/
/-- things of a task -/
def mth (t : Tk) : List Nat := match t.1 with
  | 4 => [t.2.1, t.2.2.1]
  | 5 => [t.2.1, t.2.2.1]
  | 9 => []
  | 10 => [t.2.1, t.2.2.1, t.2.2.2.1]
  | 11 => [t.2.1, t.2.2.1, t.2.2.2.1]
  | 12 => []
  | 13 => [t.2.1, t.2.2.1, t.2.2.2.1]
  | 14 => [t.2.1, t.2.2.1, t.2.2.2.1]
  | _ => [t.2.1]
/-- those whose rank counts; 15 is no task, but tells what is sought by a run within -/
def mr (t : Tk) : List Nat := match t.1 with
  | 9 => []
  | 10 => [t.2.1, t.2.2.1]
  | 11 => [t.2.1, t.2.2.1]
  | 12 => []
  | 13 => [t.2.2.2.1]
  | 14 => [t.2.2.2.1]
  | _ => [t.2.1]
/-- what is under way -/
def frs (t : Tk) : List Nat := match t.1 with
  | 3 => [t.2.1]
  | 6 => [t.2.1]
  | 7 => [t.2.1]
  | 8 => [t.2.1]
  | 13 => [t.2.2.2.1]
  | 14 => [t.2.2.2.1]
  | 15 => [t.2.1]
  | _ => []
/-- a task forces what y has become -/
def fcs (s : Ac) (b : Tk) (y : Nat) : Prop := (b.1 = 0 ∧ b.2.1 < aC s ∧ root s b.2.1 = root s y) ∨ ((b.1 = 6 ∨ b.1 = 7 ∨ b.1 = 8) ∧ b.2.1 = root s y) ∨ ((b.1 = 13 ∨ b.1 = 14) ∧ b.2.2.2.1 = root s y)
/-- what waits is forced, or is being forced right above -/
def Wf (s : Ac) (j : Nat) (l1 : List Tk) (y : Nat) : Prop := tK (aF s (root s y)) < 2 ∨ (∃ m b, l1 = m ++ [b] ∧ fcs s b y) ∨ (l1 = [] ∧ j < aL s ∧ lX (aV s (j + 1)) = root s y)
/-- data through and through, or it will be so -/
def Cv (s : Ac) (l1 : List Tk) (w : Nat) : Prop := Cl s w ∨ ∃ t, t ∈ l1 ∧ (((t.1 = 1 ∨ t.1 = 2) ∧ t.2.1 < aC s ∧ root s t.2.1 = root s w) ∨ (t.1 = 3 ∧ t.2.1 = root s w))
def ptr (fs : List Fn) (p : Tr) : Prop := twf fs.length (fpf fs) p ∧ pat p ∧ tsz p ≤ 12
def EDk (k e u : Nat) (l2 : List Tk) : Prop := ∃ m r, l2 = m ++ (e, u, 0, 0, .nil) :: r ∧ ∀ t, t ∈ m → t.1 = k
def KO (fs : List Fn) (s : Ac) (j : Nat) (l1 : List Tk) (t : Tk) (l2 : List Tk) : Prop := (∀ y, y ∈ mth t → y < aC s ∧ tW (aF s y) ≤ j) ∧ (match t.1 with
  | 0 => True
  | 1 => True
  | 2 => Wf s j l1 t.2.1
  | 3 => tK (aF s t.2.1) = 1 ∧ ∀ w, Pa s t.2.1 w → Cv s l1 w
  | 4 => ptr fs t.2.2.2.2 ∧ t.2.2.2.1 = 0 ∧ (6, t.2.2.1, 0, 0, .nil) ∈ l2 ∧ tW (aF s t.2.1) ≤ tW (aF s t.2.2.1)
  | 5 => ptr fs t.2.2.2.2 ∧ t.2.2.2.1 = 0 ∧ (6, t.2.2.1, 0, 0, .nil) ∈ l2 ∧ tW (aF s t.2.1) ≤ tW (aF s t.2.2.1) ∧ 10 ≤ tcode t.2.2.2.2 ∧ Wf s j l1 t.2.1
  | 6 => tK (aF s t.2.1) = 2 ∧ tT (aF s t.2.1) ≠ .nil
  | 7 => tK (aF s t.2.1) = 4
  | 8 => tK (aF s t.2.1) = 5
  | 9 => l2 = [] ∧ 1 ≤ j ∧ t.2.1 = lX (aV s j)
  | 10 => Cv s l1 t.2.1 ∧ Cv s l1 t.2.2.1 ∧ EDk 10 7 t.2.2.2.1 l2 ∧ tW (aF s t.2.1) ≤ tW (aF s t.2.2.2.1) ∧ tW (aF s t.2.2.1) ≤ tW (aF s t.2.2.2.1)
  | 11 => Cv s l1 t.2.1 ∧ Cv s l1 t.2.2.1 ∧ EDk 11 8 t.2.2.2.1 l2
  | 12 => l2 = [] ∧ l1 = [] ∧ 1 ≤ j ∧ j = aL s ∧ t = tRun
  | 13 => tK (aF s t.2.2.2.1) = 4 ∧ tA (aF s t.2.2.2.1) = some t.2.1 ∧ tB (aF s t.2.2.2.1) = some t.2.2.1 ∧ Cv s l1 t.2.1 ∧ Cv s l1 t.2.2.1
  | 14 => tK (aF s t.2.2.2.1) = 5 ∧ tA (aF s t.2.2.2.1) = some t.2.1 ∧ tB (aF s t.2.2.2.1) = some t.2.2.1 ∧ Cv s l1 t.2.1 ∧ Cv s l1 t.2.2.1
  | _ => False)
def JK (fs : List Fn) (s : Ac) : Prop := ∀ j, j ≤ aL s → ∀ l1 t l2, lK (aV s j) = l1 ++ t :: l2 → KO fs s j l1 t l2
def JL (s : Ac) : Prop := ∀ j, 1 ≤ j → j ≤ aL s → lX (aV s j) < aC s ∧ tK (aF s (lX (aV s j))) = 6 ∧ tW (aF s (lX (aV s j))) < j ∧ ∃ l e, lK (aV s j) = l ++ [e] ∧ (e.1 = 9 ∨ e.1 = 12)
/-- all tasks, and what is sought -/
def lowX (v : Nat → Lv) : Nat → List Tk
  | 0 => []
  | L + 1 => (15, lX (v (L + 1)), 0, 0, .nil) :: (lK (v L) ++ lowX v L)
def flX (s : Ac) : List Tk := topK s ++ lowX (aV s) (aL s)
def orR (rk : Nat → Nat) (t f : Tk) : Prop := ∀ u, u ∈ frs f → ∀ y, y ∈ mr t → rk y < rk u
def ORD (s : Ac) (rk : Nat → Nat) : Prop := List.Pairwise (orR rk) (flX s)
/-- a thing -/
def ThO (fs : List Fn) (s : Ac) (x : Nat) : Prop := tK (aF s x) < 8 ∧ tO (aF s x) < 100 ∧ (tK (aF s x) = 0 → tA (aF s x) = none ∧ tB (aF s x) = none) ∧ (tK (aF s x) = 1 → tO (aF s x) < 6 ∧ (tA (aF s x)).isSome = decide (2 ≤ tO (aF s x)) ∧ (tB (aF s x)).isSome = decide (4 ≤ tO (aF s x))) ∧ (tK (aF s x) = 2 → (∃ xf, fs[tO (aF s x)]? = some xf ∧ (1 ≤ xf.1 → (tA (aF s x)).isSome = true) ∧ (2 ≤ xf.1 → (tB (aF s x)).isSome = true)) ∧ (tT (aF s x) ≠ .nil → twf fs.length (fpf fs) (tT (aF s x)) ∧ tsz (tT (aF s x)) ≤ 12 ∧ tP (aF s x) < aP s)) ∧ (3 ≤ tK (aF s x) → tK (aF s x) ≤ 5 → (tA (aF s x)).isSome = true ∧ (tB (aF s x)).isSome = true) ∧ (tK (aF s x) = 6 → twf fs.length (fpf fs) (tT (aF s x)) ∧ tsz (tT (aF s x)) ≤ 12 ∧ tP (aF s x) < aP s ∧ NmO (aN s (tP (aF s x))) (aC s) (tT (aF s x)))
/-- a call under way has its place for itself -/
def PDs (s : Ac) : Prop := ∀ x y, x < aC s → y < aC s → tK (aF s x) = 2 → tT (aF s x) ≠ .nil → (tK (aF s y) = 6 ∨ (tK (aF s y) = 2 ∧ tT (aF s y) ≠ .nil)) → tP (aF s y) = tP (aF s x) → y = x
def NRs (s : Ac) : Prop := ∀ p k y, aN s p k = some y → y < aC s
def JT (fs : List Fn) (s : Ac) : Prop := (∀ x, x < aC s → ThO fs s x) ∧ PDs s ∧ NRs s
def JR (fs : List Fn) (s : Ac) (rk : Nat → Nat) : Prop := GR s rk ∧ ORD s rk ∧ JT fs s ∧ JK fs s ∧ JL s
theorem fcs.ev {s s' : Ac} {rk rk' : Nat → Nat} (h : Ev s s') (g : GR s rk) (g' : GR s' rk') {b : Tk} {y : Nat} (hy : y < aC s) (hu : ∀ u, u ∈ frs b → aF s' u = aF s u) (hf : fcs s b y) : fcs s' b y := by
  have hr := g.lt hy
  have n7 := g.n7 hy
  have key : ∀ u, u = root s y → aF s' u = aF s u → u = root s' y := fun u e e2 => by
    rw [h.rt g g' hy, ← e]
    refine (root_no ?_).symm
    rw [e2, e]
    exact n7
  rcases hf with ⟨h1, h2, h3⟩ | ⟨h1, h2⟩ | ⟨h1, h2⟩
  · exact Or.inl ⟨h1, Nat.lt_of_lt_of_le h2 h.1, h.req g g' h2 hy h3⟩
  · refine Or.inr (Or.inl ⟨h1, key _ h2 (hu _ ?_)⟩)
    unfold frs
    rcases h1 with e | e | e <;> rw [e] <;> exact List.mem_singleton.mpr rfl
  · refine Or.inr (Or.inr ⟨h1, key _ h2 (hu _ ?_)⟩)
    unfold frs
    rcases h1 with e | e <;> rw [e] <;> exact List.mem_singleton.mpr rfl
theorem Wf.ev {s s' : Ac} {rk rk' : Nat → Nat} (h : Ev s s') (g : GR s rk) (g' : GR s' rk') {j : Nat} {l1 : List Tk} {y : Nat} (hy : y < aC s) (hu : ∀ b, b ∈ l1 → ∀ u, u ∈ frs b → aF s' u = aF s u) (hx : j < aL s → lX (aV s (j + 1)) = root s y → tK (aF s' (root s' y)) < 2 ∨ (j < aL s' ∧ lX (aV s' (j + 1)) = root s' y)) (hf : Wf s j l1 y) : Wf s' j l1 y := by
  rcases hf with h1 | ⟨m, b, e, h1⟩ | ⟨h1, h2, h3⟩
  · exact Or.inl (h.fo g g' hy h1)
  · exact Or.inr (Or.inl ⟨m, b, e, h1.ev h g g' hy (hu b (by rw [e]; exact List.mem_append_right _ (List.mem_singleton.mpr rfl)))⟩)
  · rcases hx h2 h3 with q | q
    · exact Or.inl q
    · exact Or.inr (Or.inr ⟨h1, q⟩)
theorem Cv.ev {s s' : Ac} {rk rk' : Nat → Nat} (h : Ev s s') (g : GR s rk) (g' : GR s' rk') {l1 : List Tk} {w : Nat} (hw : w < aC s) (hu : ∀ b, b ∈ l1 → ∀ u, u ∈ frs b → aF s' u = aF s u) (hf : Cv s l1 w) : Cv s' l1 w := by
  rcases hf with h1 | ⟨t, ht, ⟨h1, h2, h3⟩ | ⟨h1, h2⟩⟩
  · exact Or.inl (h.cl g g' hw h1)
  · exact Or.inr ⟨t, ht, Or.inl ⟨h1, Nat.lt_of_lt_of_le h2 h.1, h.req g g' h2 hw h3⟩⟩
  · refine Or.inr ⟨t, ht, Or.inr ⟨h1, ?_⟩⟩
    have e := hu t ht t.2.1 (by unfold frs; rw [h1]; exact List.mem_singleton.mpr rfl)
    rw [h.rt g g' hw, ← h2]
    refine (root_no ?_).symm
    rw [e, h2]
    exact g.n7 hw
theorem Cv.more {s : Ac} {l1 l1' : List Tk} {w : Nat} (h : Cv s l1 w) (hm : ∀ t, t ∈ l1 → t ∈ l1') : Cv s l1' w := by
  rcases h with h1 | ⟨t, ht, h1⟩
  · exact Or.inl h1
  · exact Or.inr ⟨t, hm t ht, h1⟩
theorem GR.pa {s : Ac} {rk : Nat → Nat} (g : GR s rk) {x w : Nat} (hx : x < aC s) (hk : tK (aF s x) ≠ 7) (hw : Pa s x w) : w < aC s ∧ rk w < rk x ∧ tW (aF s w) ≤ tW (aF s x) := (g x hx).2 w (hw.elim Or.inl (fun q => Or.inr (Or.inl ⟨hk, q⟩)))
/-- a task keeps what holds of it while others are done; what lies above it may be another -/
theorem KO.ev {fs : List Fn} {s s' : Ac} {rk rk' : Nat → Nat} (h : Ev s s') (g : GR s rk) (g' : GR s' rk') {j : Nat} {l1 l1' l2 : List Tk} {t : Tk} (hu : ∀ u, u ∈ frs t → aF s' u = aF s u) (hX : lX (aV s' j) = lX (aV s j)) (hW : ∀ y, y < aC s → Wf s j l1 y → Wf s' j l1' y) (hC : ∀ w, w < aC s → Cv s l1 w → Cv s' l1' w) (h12 : t.1 ≠ 12) (hf : KO fs s j l1 t l2) : KO fs s' j l1' t l2 := by
  obtain ⟨k, y, a, b, p⟩ := t
  obtain ⟨h1, h2⟩ := hf
  refine ⟨fun z hz => ?_, ?_⟩
  · obtain ⟨q1, q2⟩ := h1 z hz
    exact ⟨Nat.lt_of_lt_of_le q1 h.1, by rw [(h.2 z q1).1]; exact q2⟩
  · match k, h1, h2, hu, h12 with
    | 0, _, _, _, _ => trivial
    | 1, _, _, _, _ => trivial
    | 2, h1, h2, _, _ => exact hW _ (h1 _ (List.mem_cons_self ..)).1 h2
    | 3, h1, h2, hu, _ =>
      have e := hu y (List.mem_cons_self ..)
      have hy := (h1 y (List.mem_cons_self ..)).1
      refine ⟨by rw [e]; exact h2.1, fun w hw => ?_⟩
      have hw' : Pa s y w := by
        unfold Pa at hw ⊢
        rw [e] at hw
        exact hw
      exact hC w (g.pa hy (by rw [show tK (aF s y) = 1 from h2.1]; decide) hw').1 (h2.2 w hw')
    | 4, h1, h2, _, _ =>
      refine ⟨h2.1, h2.2.1, h2.2.2.1, ?_⟩
      rw [(h.2 _ (h1 _ (List.mem_cons_self ..)).1).1, (h.2 _ (h1 _ (List.mem_cons_of_mem _ (List.mem_cons_self ..))).1).1]
      exact h2.2.2.2
    | 5, h1, h2, _, _ =>
      refine ⟨h2.1, h2.2.1, h2.2.2.1, ?_, h2.2.2.2.2.1, hW _ (h1 _ (List.mem_cons_self ..)).1 h2.2.2.2.2.2⟩
      rw [(h.2 _ (h1 _ (List.mem_cons_self ..)).1).1, (h.2 _ (h1 _ (List.mem_cons_of_mem _ (List.mem_cons_self ..))).1).1]
      exact h2.2.2.2.1
    | 6, _, h2, hu, _ =>
      have e := hu y (List.mem_cons_self ..)
      show tK (aF s' y) = 2 ∧ tT (aF s' y) ≠ .nil
      rw [e]
      exact h2
    | 7, _, h2, hu, _ =>
      have e := hu y (List.mem_cons_self ..)
      show tK (aF s' y) = 4
      rw [e]
      exact h2
    | 8, _, h2, hu, _ =>
      have e := hu y (List.mem_cons_self ..)
      show tK (aF s' y) = 5
      rw [e]
      exact h2
    | 9, _, h2, _, _ => exact ⟨h2.1, h2.2.1, h2.2.2.trans hX.symm⟩
    | 10, h1, h2, _, _ =>
      refine ⟨hC _ (h1 _ (List.mem_cons_self ..)).1 h2.1, hC _ (h1 _ (List.mem_cons_of_mem _ (List.mem_cons_self ..))).1 h2.2.1, h2.2.2.1, ?_⟩
      rw [(h.2 _ (h1 _ (List.mem_cons_self ..)).1).1, (h.2 _ (h1 _ (List.mem_cons_of_mem _ (List.mem_cons_self ..))).1).1, (h.2 _ (h1 _ (List.mem_cons_of_mem _ (List.mem_cons_of_mem _ (List.mem_cons_self ..)))).1).1]
      exact h2.2.2.2
    | 11, h1, h2, _, _ => exact ⟨hC _ (h1 _ (List.mem_cons_self ..)).1 h2.1, hC _ (h1 _ (List.mem_cons_of_mem _ (List.mem_cons_self ..))).1 h2.2.1, h2.2.2⟩
    | 12, _, _, _, h12 => exact absurd rfl h12
    | 13, h1, h2, hu, _ =>
      have e := hu b (List.mem_cons_self ..)
      obtain ⟨a1, a2, a3, a4, a5⟩ := h2
      refine ⟨?_, ?_, ?_, hC _ (h1 _ (List.mem_cons_self ..)).1 a4, hC _ (h1 _ (List.mem_cons_of_mem _ (List.mem_cons_self ..))).1 a5⟩
      · show tK (aF s' b) = 4
        rw [e]
        exact a1
      · show tA (aF s' b) = _
        rw [e]
        exact a2
      · show tB (aF s' b) = _
        rw [e]
        exact a3
    | 14, h1, h2, hu, _ =>
      have e := hu b (List.mem_cons_self ..)
      obtain ⟨a1, a2, a3, a4, a5⟩ := h2
      refine ⟨?_, ?_, ?_, hC _ (h1 _ (List.mem_cons_self ..)).1 a4, hC _ (h1 _ (List.mem_cons_of_mem _ (List.mem_cons_self ..))).1 a5⟩
      · show tK (aF s' b) = 5
        rw [e]
        exact a1
      · show tA (aF s' b) = _
        rw [e]
        exact a2
      · show tB (aF s' b) = _
        rw [e]
        exact a3
    | n + 15, _, h2, _, _ => exact h2.elim
