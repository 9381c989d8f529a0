/-! WHAT HOLDS IN EVERY RUN: a task is done, others are laid upon the rest -/
/-- what is left below the task on top -/
def restX (s : Ac) (l : List Tk) : List Tk := l ++ lowX (aV s) (aL s)
theorem lowX_eq {v v' : Nat → Lv} : ∀ {L : Nat}, (∀ j, 1 ≤ j → j ≤ L → lX (v' j) = lX (v j)) → (∀ j, j < L → lK (v' j) = lK (v j)) → lowX v' L = lowX v L
  | 0, _, _ => rfl
  | L + 1, h1, h2 => by
    show (15, lX (v' (L + 1)), 0, 0, .nil) :: (lK (v' L) ++ lowX v' L) = (15, lX (v (L + 1)), 0, 0, .nil) :: (lK (v L) ++ lowX v L)
    rw [h1 (L + 1) (by omega) (by omega), h2 L (by omega), lowX_eq (fun j a b => h1 j a (by omega)) (fun j a => h2 j (by omega))]
theorem mem_low {v : Nat → Lv} {t : Tk} : ∀ {L j : Nat}, j < L → t ∈ lK (v j) → t ∈ lowX v L
  | 0, j, h, _ => by omega
  | L + 1, j, h, ht => by
    by_cases e : j = L
    · subst e
      exact List.mem_cons_of_mem _ (List.mem_append_left _ ht)
    · exact List.mem_cons_of_mem _ (List.mem_append_right _ (mem_low (by omega) ht))
theorem mem_lx {v : Nat → Lv} : ∀ {L j : Nat}, 1 ≤ j → j ≤ L → (15, lX (v j), 0, 0, .nil) ∈ lowX v L
  | 0, j, h, _ => by omega
  | L + 1, j, h, h2 => by
    by_cases e : j = L + 1
    · subst e
      exact List.mem_cons_self ..
    · exact List.mem_cons_of_mem _ (List.mem_append_right _ (mem_lx h (by omega)))
theorem Ev.stay {s s' : Ac} {rk rk' : Nat → Nat} (h : Ev s s') (g : GR s rk) (g' : GR s' rk') {x y : Nat} (hy : y < aC s) (e : x = root s y) (hx : aF s' x = aF s x) : x = root s' y := by
  rw [h.rt g g' hy, ← e]
  refine (root_no ?_).symm
  rw [hx, e]
  exact g.n7 hy
theorem JR.op {fs : List Fn} {s s' : Ac} {rk rk' : Nat → Nat} {t : Tk} {l new : List Tk} (J : JR fs s rk) (ht : topK s = t :: l)
  (hL : aL s' = aL s) (hX : ∀ j, lX (aV s' j) = lX (aV s j)) (hk : ∀ j, j < aL s → lK (aV s' j) = lK (aV s j)) (hk0 : topK s' = new ++ l)
  (hT : JT fs s') (hG : GR s' rk') (hE : Ev s s')
  (hu : ∀ f, f ∈ restX s l → ∀ u, u ∈ frs f → aF s' u = aF s u)
  (hr : ∀ x u, x < aC s → u < aC s → (∃ f, f ∈ restX s l ∧ u ∈ frs f) → rk x < rk u → rk' x < rk' u)
  (hn : ∀ n1 a n2, new = n1 ++ a :: n2 → KO fs s' (aL s) n1 a (n2 ++ l))
  (ho : List.Pairwise (orR rk') new) (hol : ∀ a, a ∈ new → ∀ f, f ∈ restX s l → orR rk' a f)
  (hw : ∀ y, y < aC s → fcs s t y → tK (aF s' (root s' y)) < 2 ∨ ∃ m b, new = m ++ [b] ∧ fcs s' b y)
  (hc : ∀ w, w < aC s → Cv s [t] w → Cv s' new w)
  (hla : l = [] → 1 ≤ aL s → ∃ n e, new = n ++ [e] ∧ (e.1 = 9 ∨ e.1 = 12)) : JR fs s' rk' := by
  obtain ⟨g, o, jt, jk, jl⟩ := J
  have low : lowX (aV s') (aL s') = lowX (aV s) (aL s) := by
    rw [hL]
    exact lowX_eq (fun j _ _ => hX j) hk
  have hso : ∀ j, 1 ≤ j → j ≤ aL s → aF s' (lX (aV s j)) = aF s (lX (aV s j)) := fun j j1 j2 => hu _ (List.mem_append_right _ (mem_lx j1 j2)) _ (List.mem_cons_self ..)
  have hx : ∀ j y, y < aC s → j < aL s → lX (aV s (j + 1)) = root s y → tK (aF s' (root s' y)) < 2 ∨ (j < aL s' ∧ lX (aV s' (j + 1)) = root s' y) := fun j y hy hj e => by
    refine Or.inr ⟨by rw [hL]; exact hj, ?_⟩
    rw [hX]
    exact hE.stay g hG hy e (hso _ (by omega) (by omega))
  have h12 : ∀ j l1 b l2, j ≤ aL s → lK (aV s j) = l1 ++ b :: l2 → (j < aL s ∨ l1 ≠ []) → b.1 ≠ 12 := fun j l1 b l2 hj e hor q => by
    have := (jk j hj l1 b l2 e).2
    rw [q] at this
    rcases hor with w | w
    · have := this.2.2.2.1
      omega
    · exact w this.2.1
  have frl : ∀ x, x ∈ mr t → True := fun _ _ => trivial
  refine ⟨hG, ?_, hT, ?_, ?_⟩
  · unfold ORD flX
    rw [hk0, low, List.append_assoc]
    refine List.pairwise_append.mpr ⟨ho, ?_, hol⟩
    have o2 : List.Pairwise (orR rk) (t :: (l ++ lowX (aV s) (aL s))) := by
      have : List.Pairwise (orR rk) (topK s ++ lowX (aV s) (aL s)) := o
      rw [ht] at this
      exact this
    have o3 := (List.pairwise_cons.mp o2).2
    have rng : ∀ a, a ∈ l ++ lowX (aV s) (aL s) → (∀ y, y ∈ mr a → y < aC s) ∧ ∀ u, u ∈ frs a → u < aC s := by
      have tk : ∀ j l1 b l2, j ≤ aL s → lK (aV s j) = l1 ++ b :: l2 → (∀ y, y ∈ mr b → y < aC s) ∧ ∀ u, u ∈ frs b → u < aC s := fun j l1 b l2 hj e => by
        have := (jk j hj l1 b l2 e)
        obtain ⟨k, y, a, c, p⟩ := b
        obtain ⟨q1, q2⟩ := this
        refine ⟨fun z hz => (q1 z ?_).1, fun z hz => (q1 z ?_).1⟩
        · match k, hz, q2 with
          | 0, hz, _ => exact hz
          | 1, hz, _ => exact hz
          | 2, hz, _ => exact hz
          | 3, hz, _ => exact hz
          | 4, hz, _ => exact List.mem_cons.mpr (Or.inl (List.mem_singleton.mp hz))
          | 5, hz, _ => exact List.mem_cons.mpr (Or.inl (List.mem_singleton.mp hz))
          | 6, hz, _ => exact hz
          | 7, hz, _ => exact hz
          | 8, hz, _ => exact hz
          | 9, hz, _ => exact hz
          | 10, hz, _ => exact (List.mem_cons.mp hz).elim (fun q => List.mem_cons.mpr (Or.inl q)) (fun q => List.mem_cons_of_mem _ (List.mem_cons.mpr (Or.inl (List.mem_singleton.mp q))))
          | 11, hz, _ => exact (List.mem_cons.mp hz).elim (fun q => List.mem_cons.mpr (Or.inl q)) (fun q => List.mem_cons_of_mem _ (List.mem_cons.mpr (Or.inl (List.mem_singleton.mp q))))
          | 12, hz, _ => exact hz
          | 13, hz, _ => exact List.mem_cons_of_mem _ (List.mem_cons_of_mem _ hz)
          | 14, hz, _ => exact List.mem_cons_of_mem _ (List.mem_cons_of_mem _ hz)
          | n + 15, _, q2 => exact q2.elim
        · match k, hz, q2 with
          | 0, hz, _ => exact (List.not_mem_nil hz).elim
          | 1, hz, _ => exact (List.not_mem_nil hz).elim
          | 2, hz, _ => exact (List.not_mem_nil hz).elim
          | 3, hz, _ => exact hz
          | 4, hz, _ => exact (List.not_mem_nil hz).elim
          | 5, hz, _ => exact (List.not_mem_nil hz).elim
          | 6, hz, _ => exact hz
          | 7, hz, _ => exact hz
          | 8, hz, _ => exact hz
          | 9, hz, _ => exact (List.not_mem_nil hz).elim
          | 10, hz, _ => exact (List.not_mem_nil hz).elim
          | 11, hz, _ => exact (List.not_mem_nil hz).elim
          | 12, hz, _ => exact (List.not_mem_nil hz).elim
          | 13, hz, _ => exact List.mem_cons_of_mem _ (List.mem_cons_of_mem _ hz)
          | 14, hz, _ => exact List.mem_cons_of_mem _ (List.mem_cons_of_mem _ hz)
          | n + 15, _, q2 => exact q2.elim
      have lw : ∀ L, L ≤ aL s → ∀ a, a ∈ lowX (aV s) L → (∀ y, y ∈ mr a → y < aC s) ∧ ∀ u, u ∈ frs a → u < aC s := by
        intro L
        induction L with
        | zero => exact fun _ a ha => (List.not_mem_nil ha).elim
        | succ L ih =>
          intro hL a ha
          rcases List.mem_cons.mp ha with e | ha
          · have := (jl (L + 1) (by omega) hL).1
            rw [e]
            exact ⟨fun y hy => (List.mem_singleton.mp hy) ▸ this, fun y hy => (List.mem_singleton.mp hy) ▸ this⟩
          · rcases List.mem_append.mp ha with ha | ha
            · obtain ⟨l1, l2, e⟩ := List.append_of_mem ha
              exact tk L l1 a l2 (by omega) e
            · exact ih (by omega) a ha
      intro a ha
      rcases List.mem_append.mp ha with ha | ha
      · obtain ⟨l1, l2, e⟩ := List.append_of_mem ha
        refine tk (aL s) (t :: l1) a l2 (Nat.le_refl _) ?_
        show topK s = _
        rw [ht, e]
        rfl
      · exact lw _ (Nat.le_refl _) a ha
    refine List.Pairwise.imp_of_mem ?_ o3
    intro a b ha hb hab u hu2 y hy
    exact hr y u ((rng a ha).1 y hy) ((rng b hb).2 u hu2) ⟨b, hb, hu2⟩ (hab u hu2 y hy)
  · intro j hj l1 b l2 e
    rw [hL] at hj
    by_cases hjL : j < aL s
    · rw [hk j hjL] at e
      have hmem : ∀ c, c ∈ l1 ++ b :: l2 → c ∈ restX s l := fun c hc2 => List.mem_append_right _ (mem_low hjL (by rw [e]; exact hc2))
      refine (jk j hj l1 b l2 e).ev hE g hG (hu b (hmem b (List.mem_append_right _ (List.mem_cons_self ..)))) (hX j) (fun y hy w => w.ev hE g hG hy (fun c hc2 => hu c (hmem c (List.mem_append_left _ hc2))) (hx j y hy)) (fun w hw2 q => q.ev hE g hG hw2 (fun c hc2 => hu c (hmem c (List.mem_append_left _ hc2)))) (h12 j l1 b l2 hj e (Or.inl hjL))
    · have ej : j = aL s := by omega
      subst ej
      have e : topK s' = l1 ++ b :: l2 := by
        show lK (aV s' (aL s')) = _
        rw [hL]
        exact e
      rw [hk0] at e
      have old : ∀ a', l1 = new ++ a' → l = a' ++ b :: l2 → KO fs s' (aL s) l1 b l2 := by
        intro a' e1 e2
        have et : lK (aV s (aL s)) = (t :: a') ++ b :: l2 := by
          show topK s = _
          rw [ht, e2]
          rfl
        have hml : ∀ c, c ∈ l → c ∈ restX s l := fun c hc2 => List.mem_append_left _ hc2
        have hma : ∀ c, c ∈ a' → c ∈ l := fun c hc2 => by
          rw [e2]
          exact List.mem_append_left _ hc2
        refine (jk _ (Nat.le_refl _) _ b l2 et).ev hE g hG (hu b (hml b (by rw [e2]; exact List.mem_append_right _ (List.mem_cons_self ..)))) (hX _) ?_ ?_ (h12 _ _ b l2 (Nat.le_refl _) et (Or.inr (by simp)))
        · intro y hy w
          rcases w with w | ⟨m, c, ec, w⟩ | ⟨w, _⟩
          · exact Or.inl (hE.fo g hG hy w)
          · rcases List.eq_nil_or_concat a' with ea | ⟨a2, d, ea⟩
            · subst ea
              have : m = [] ∧ t = c := by
                cases m with
                | nil => exact ⟨rfl, by simpa using ec⟩
                | cons z m => simp at ec
              rw [← this.2] at w
              rcases hw y hy w with q | ⟨m2, b2, q1, q2⟩
              · exact Or.inl q
              · exact Or.inr (Or.inl ⟨m2, b2, by rw [e1, List.append_nil]; exact q1, q2⟩)
            · rw [ea, List.concat_eq_append, ← List.cons_append] at ec
              have ed : d = c := by
                have := List.append_inj_right' ec rfl
                simpa using this
              rw [← ed] at w
              refine Or.inr (Or.inl ⟨new ++ a2, d, by rw [e1, ea, List.concat_eq_append, List.append_assoc], w.ev hE g hG hy (hu d (hml d (hma d ?_)))⟩)
              rw [ea, List.concat_eq_append]
              exact List.mem_append_right _ (List.mem_singleton.mpr rfl)
          · cases w
        · intro w hw2 q
          rw [e1]
          rcases q with q | ⟨c, hc2, q⟩
          · exact Or.inl (hE.cl g hG hw2 q)
          · rcases List.mem_cons.mp hc2 with ec | hc2
            · exact (hc w hw2 (Or.inr ⟨t, List.mem_singleton.mpr rfl, by rw [← ec]; exact q⟩)).more (fun z hz => List.mem_append_left _ hz)
            · have q2 : Cv s a' w := Or.inr ⟨c, hc2, q⟩
              exact (q2.ev hE g hG hw2 (fun z hz => hu z (hml z (hma z hz)))).more (fun z hz => List.mem_append_right _ hz)
      rcases List.append_eq_append_iff.mp e with ⟨a', e1, e2⟩ | ⟨c', e1, e2⟩
      · exact old a' e1 e2
      · cases c' with
        | nil =>
          rw [List.append_nil] at e1
          exact old [] (by rw [List.append_nil]; exact e1.symm) (by simpa using e2.symm)
        | cons z c'' =>
          have : b = z ∧ l2 = c'' ++ l := by simpa using e2
          rw [← this.1] at e1
          rw [this.2]
          exact hn l1 b c'' e1
  · intro j j1 j2
    rw [hL] at j2
    obtain ⟨a1, a2, a3, n, z, a4, a5⟩ := jl j j1 j2
    have ex := hso j j1 j2
    rw [hX, ex]
    refine ⟨Nat.lt_of_lt_of_le a1 hE.1, a2, a3, ?_⟩
    by_cases hjL : j < aL s
    · rw [hk j hjL]
      exact ⟨n, z, a4, a5⟩
    · have ej : j = aL s := by omega
      subst ej
      show ∃ l e, lK (aV s' (aL s)) = l ++ [e] ∧ (e.1 = 9 ∨ e.1 = 12)
      rw [show lK (aV s' (aL s)) = new ++ l by rw [← hk0]; show lK (aV s' (aL s)) = lK (aV s' (aL s')); rw [hL]]
      rcases List.eq_nil_or_concat l with el | ⟨l0, d, el⟩
      · obtain ⟨n2, e2, q1, q2⟩ := hla el j1
        exact ⟨n2, e2, by rw [el, List.append_nil]; exact q1, q2⟩
      · have a4 : topK s = n ++ [z] := a4
        rw [ht, el, List.concat_eq_append, ← List.cons_append] at a4
        have ed : d = z := by
          have := List.append_inj_right' a4 rfl
          simpa using this
        exact ⟨new ++ l0, d, by rw [el, List.concat_eq_append, List.append_assoc], by rw [ed]; exact a5⟩
