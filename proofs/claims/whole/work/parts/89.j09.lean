/-! WHAT HOLDS IN EVERY RUN: kinds of steps -/
/-- levels as they were, but for tasks on top -/
def lvs (s s' : Ac) (l new : List Tk) : Prop := aL s' = aL s ∧ (∀ j, lX (aV s' j) = lX (aV s j)) ∧ (∀ j, j < aL s → lK (aV s' j) = lK (aV s j)) ∧ topK s' = new ++ l
theorem lvs_set {s : Ac} {l : List Tk} : lvs s (setK s l) l [] := by
  refine ⟨rfl, fun j => ?_, fun j hj => ?_, topK_setK⟩
  · show lX (up1 (aV s) (aL s) _ j) = _
    rcases up1_or (f := aV s) (x := aL s) (y := j) (v := pTk (aV s (aL s)) l) with ⟨e1, e2⟩ | ⟨_, e2⟩
    · rw [e2, e1]
      rfl
    · rw [e2]
  · show lK (up1 (aV s) (aL s) _ j) = _
    rw [up1_ne (by omega)]
theorem lvs.pu {s q : Ac} {l new : List Tk} (h : lvs s q l []) : lvs s (push q new) l new := by
  obtain ⟨h1, h2, h3, h4⟩ := h
  refine ⟨h1, fun j => ?_, fun j hj => ?_, ?_⟩
  · rw [(aV_push (s := q) (l := new) j).2.2.1]
    exact h2 j
  · show lK (up1 (aV q) (aL q) _ j) = _
    rw [up1_ne (by omega)]
    exact h3 j hj
  · rw [topK_push, h4]
    rfl
theorem lvs.sd {s q : Ac} {l : List Tk} {o : Nat} {d : List (Nat × Nat)} {g : List Nat} (h : lvs s q l []) : lvs s (setD q o d g) l [] := by
  obtain ⟨h1, h2, h3, h4⟩ := h
  have e : ∀ j, lX (aV (setD q o d g) j) = lX (aV q j) ∧ lK (aV (setD q o d g) j) = lK (aV q j) := fun j => by
    show lX (up1 (aV q) o _ j) = _ ∧ lK (up1 (aV q) o _ j) = _
    rcases up1_or (f := aV q) (x := o) (y := j) (v := (lX (aV q o), lU (aV q o), d, g, lK (aV q o), lZ (aV q o))) with ⟨e1, e2⟩ | ⟨_, e2⟩
    · rw [e2, e1]
      exact ⟨rfl, rfl⟩
    · rw [e2]
      exact ⟨rfl, rfl⟩
  refine ⟨h1, fun j => (e j).1.trans (h2 j), fun j hj => (e j).2.trans (h3 j hj), ?_⟩
  show lK (aV (setD q o d g) (aL q)) = _
  rw [(e _).2]
  exact h4
theorem JL.nl {s : Ac} (jl : JL s) {t : Tk} {l : List Tk} (ht : topK s = t :: l) (h9 : t.1 ≠ 9) (h12 : t.1 ≠ 12) (h1 : 1 ≤ aL s) : l ≠ [] := fun e => by
  obtain ⟨_, _, _, n, z, a4, a5⟩ := jl (aL s) h1 (Nat.le_refl _)
  have a4 : topK s = n ++ [z] := a4
  rw [ht, e] at a4
  have : t = z := by
    cases n with
    | nil => simpa using a4
    | cons q n => simp at a4
  rw [this] at h9 h12
  exact a5.elim h9 h12
/-- what is under way is there, and no end is -/
theorem JR.rng {fs : List Fn} {s : Ac} {rk : Nat → Nat} (J : JR fs s rk) {a : Tk} (ha : a ∈ flX s) {u : Nat} (hu : u ∈ frs a) : u < aC s ∧ tK (aF s u) ≠ 7 ∧ tK (aF s u) ≠ 0 := by
  obtain ⟨g, o, jt, jk, jl⟩ := J
  have tk : ∀ j, j ≤ aL s → a ∈ lK (aV s j) → u < aC s ∧ tK (aF s u) ≠ 7 ∧ tK (aF s u) ≠ 0 := fun j hj h => by
    obtain ⟨l1, l2, e⟩ := List.append_of_mem h
    have q := jk j hj l1 a l2 e
    obtain ⟨k, y, b, c, p⟩ := a
    obtain ⟨q1, q2⟩ := q
    match k, hu, q1, q2 with
    | 0, hz, _, _ => exact (List.not_mem_nil hz).elim
    | 1, hz, _, _ => exact (List.not_mem_nil hz).elim
    | 2, hz, _, _ => exact (List.not_mem_nil hz).elim
    | 3, hz, q1, q2 =>
      have e := List.mem_singleton.mp hz
      subst e
      have : tK (aF s u) = 1 := q2.1
      exact ⟨(q1 _ hz).1, by omega, by omega⟩
    | 4, hz, _, _ => exact (List.not_mem_nil hz).elim
    | 5, hz, _, _ => exact (List.not_mem_nil hz).elim
    | 6, hz, q1, q2 =>
      have e := List.mem_singleton.mp hz
      subst e
      have : tK (aF s u) = 2 := q2.1
      exact ⟨(q1 _ hz).1, by omega, by omega⟩
    | 7, hz, q1, q2 =>
      have e := List.mem_singleton.mp hz
      subst e
      have q2 : tK (aF s u) = 4 := q2
      exact ⟨(q1 _ hz).1, by omega, by omega⟩
    | 8, hz, q1, q2 =>
      have e := List.mem_singleton.mp hz
      subst e
      have q2 : tK (aF s u) = 5 := q2
      exact ⟨(q1 _ hz).1, by omega, by omega⟩
    | 9, hz, _, _ => exact (List.not_mem_nil hz).elim
    | 10, hz, _, _ => exact (List.not_mem_nil hz).elim
    | 11, hz, _, _ => exact (List.not_mem_nil hz).elim
    | 12, hz, _, _ => exact (List.not_mem_nil hz).elim
    | 13, hz, q1, q2 =>
      have e := List.mem_singleton.mp hz
      subst e
      have : tK (aF s u) = 4 := q2.1
      exact ⟨(q1 _ (List.mem_cons_of_mem _ (List.mem_cons_of_mem _ hz))).1, by omega, by omega⟩
    | 14, hz, q1, q2 =>
      have e := List.mem_singleton.mp hz
      subst e
      have : tK (aF s u) = 5 := q2.1
      exact ⟨(q1 _ (List.mem_cons_of_mem _ (List.mem_cons_of_mem _ hz))).1, by omega, by omega⟩
    | n + 15, _, _, q2 => exact q2.elim
  have lw : ∀ L, L ≤ aL s → a ∈ lowX (aV s) L → u < aC s ∧ tK (aF s u) ≠ 7 ∧ tK (aF s u) ≠ 0 := by
    intro L
    induction L with
    | zero => exact fun _ h => (List.not_mem_nil h).elim
    | succ L ih =>
      intro hL h
      rcases List.mem_cons.mp h with e | h
      · obtain ⟨b1, b2, _⟩ := jl (L + 1) (by omega) hL
        rw [e] at hu
        have : u = lX (aV s (L + 1)) := List.mem_singleton.mp hu
        rw [this]
        exact ⟨b1, by omega, by omega⟩
      · rcases List.mem_append.mp h with h | h
        · exact tk L (by omega) h
        · exact ih (by omega) h
  rcases List.mem_append.mp ha with h | h
  · exact tk _ (Nat.le_refl _) h
  · exact lw _ (Nat.le_refl _) h
theorem JR.rest {fs : List Fn} {s : Ac} {rk : Nat → Nat} (J : JR fs s rk) {t : Tk} {l : List Tk} (ht : topK s = t :: l) : (∀ f, f ∈ restX s l → f ∈ flX s) ∧ ∀ f, f ∈ restX s l → orR rk t f := by
  have e : flX s = t :: restX s l := by
    show topK s ++ lowX (aV s) (aL s) = _
    rw [ht]
    rfl
  refine ⟨fun f hf => by rw [e]; exact List.mem_cons_of_mem _ hf, ?_⟩
  have o := J.2.1
  unfold ORD at o
  rw [e] at o
  exact (List.pairwise_cons.mp o).1
/-- a step that changes one thing at most, of no higher rank than the task's -/
theorem JR.op1 {fs : List Fn} {s s' : Ac} {rk rk' : Nat → Nat} {t : Tk} {l new : List Tk} {x : Nat} (J : JR fs s rk) (ht : topK s = t :: l) (lv : lvs s s' l new)
  (hT : JT fs s') (hG : GR s' rk') (hE : Ev s s') (hx : ∀ z, z < aC s → z ≠ x → aF s' z = aF s z) (hxr : ∃ y, y ∈ mr t ∧ rk x ≤ rk y)
  (hr : ∀ z u, z < aC s → u < aC s → (∃ f, f ∈ restX s l ∧ u ∈ frs f) → rk z < rk u → rk' z < rk' u)
  (hn : ∀ n1 a n2, new = n1 ++ a :: n2 → KO fs s' (aL s) n1 a (n2 ++ l))
  (ho : List.Pairwise (orR rk') new) (hol : ∀ a, a ∈ new → ∀ y', y' ∈ mr a → ∀ u, u < aC s → (∃ f, f ∈ restX s l ∧ u ∈ frs f) → (∀ y, y ∈ mr t → rk y < rk u) → rk' y' < rk' u)
  (hw : ∀ y, y < aC s → fcs s t y → tK (aF s' (root s' y)) < 2 ∨ ∃ m b, new = m ++ [b] ∧ fcs s' b y)
  (hc : ∀ w, w < aC s → Cv s [t] w → Cv s' new w)
  (hla : l = [] → 1 ≤ aL s → ∃ n e, new = n ++ [e] ∧ (e.1 = 9 ∨ e.1 = 12)) : JR fs s' rk' := by
  obtain ⟨r1, r2⟩ := J.rest ht
  obtain ⟨y0, y1, y2⟩ := hxr
  refine J.op ht lv.1 lv.2.1 lv.2.2.1 lv.2.2.2 hT hG hE (fun f hf u hu => ?_) hr hn ho (fun a ha f hf u hu y hy => ?_) hw hc hla
  · have q := r2 f hf u hu y0 y1
    exact hx u (J.rng (r1 f hf) hu).1 (fun e => by rw [e] at q; omega)
  · exact hol a ha y hy u (J.rng (r1 f hf) hu).1 ⟨f, hf, hu⟩ (fun z hz => r2 f hf u hu z hz)
/-- a step that changes no thing -/
theorem JR.op0 {fs : List Fn} {s s' : Ac} {rk : Nat → Nat} {t : Tk} {l new : List Tk} (J : JR fs s rk) (ht : topK s = t :: l) (lv : lvs s s' l new)
  (e1 : aC s' = aC s) (e2 : aF s' = aF s) (e3 : aN s' = aN s) (e4 : aP s' = aP s)
  (hn : ∀ n1 a n2, new = n1 ++ a :: n2 → KO fs s' (aL s) n1 a (n2 ++ l))
  (ho : List.Pairwise (orR rk) new) (hol : ∀ a, a ∈ new → ∀ y', y' ∈ mr a → ∃ y, y ∈ mr t ∧ rk y' ≤ rk y)
  (hw : ∀ y, y < aC s → fcs s t y → tK (aF s' (root s' y)) < 2 ∨ ∃ m b, new = m ++ [b] ∧ fcs s' b y)
  (hc : ∀ w, w < aC s → Cv s [t] w → Cv s' new w)
  (hla : l = [] → 1 ≤ aL s → ∃ n e, new = n ++ [e] ∧ (e.1 = 9 ∨ e.1 = 12)) : JR fs s' rk ∧ Ev s s' := by
  have hE : Ev s s' := Ev.same (by omega) (fun z _ => by rw [e2])
  obtain ⟨r1, r2⟩ := J.rest ht
  refine ⟨J.op ht lv.1 lv.2.1 lv.2.2.1 lv.2.2.2 (J.2.2.1.eq e1 e2 e3 e4) (J.1.eq e1 e2 e3) hE (fun f hf u hu => by rw [e2]) (fun _ _ _ _ _ q => q) hn ho (fun a ha f hf u hu y hy => ?_) hw hc hla, hE⟩
  obtain ⟨z, z1, z2⟩ := hol a ha y hy
  have := r2 f hf u hu z z1
  omega
/-- something fails -/
theorem JR.fail {fs : List Fn} {s q : Ac} {rk : Nat → Nat} {l : List Tk} {o : Nat} (J : JR fs s rk) (lv : lvs s q l []) (e1 : aC q = aC s) (e2 : aF q = aF s) (e3 : aN q = aN s) (e4 : aP q = aP s) (ho : o ≤ aL s) (h0 : aE (failA q o) = 0) : JR fs (failA q o) rk ∧ Ev s (failA q o) := by
  obtain ⟨v1, v2, v3, v4⟩ := lv
  unfold failA at h0 ⊢
  by_cases q0 : o = 0
  · rw [if_pos q0] at h0
    exact absurd h0 (show ¬ (2 : Nat) = 0 by decide)
  · rw [if_neg q0] at h0 ⊢
    cases hb : backA (lD (aV q o)) with
    | nil =>
      rw [hb] at h0
      show JR fs (sL (data q (lX (aV q o)) 0 none none) (o - 1) (aV q)) rk ∧ Ev s (sL (data q (lX (aV q o)) 0 none none) (o - 1) (aV q))
      obtain ⟨b1, b2, b3, b4⟩ := J.2.2.2.2 o (by omega) ho
      have gq : GR q rk := J.1.eq e1 e2 e3
      have jq : JT fs q := J.2.2.1.eq e1 e2 e3 e4
      obtain ⟨d1, d2⟩ := data_T (x := lX (aV q o)) (k := 0) gq jq (by decide)
      have hch : ∀ z, z ≠ lX (aV s o) → aF (sL (data q (lX (aV q o)) 0 none none) (o - 1) (aV q)) z = aF s z := fun z hz => by
        rw [← e2]
        refine up1_ne ?_
        rw [v2]
        exact hz
      have hE : Ev s (sL (data q (lX (aV q o)) 0 none none) (o - 1) (aV q)) := by
        refine Ev.chg (x := lX (aV s o)) (by show aC s ≤ aC q; omega) (fun z _ hz => hch z hz) ?_ (by omega) (by omega)
        show tW (up1 (aF q) (lX (aV q o)) _ (lX (aV s o))) = _
        rw [v2, up1_at, e2]
      refine ⟨J.pop (L' := o - 1) (by omega) rfl (fun j _ => v2 j) (fun j hj => v3 j (by omega)) (d1.eq rfl rfl rfl rfl) (d2.eq rfl rfl rfl) hE (fun f hf u hu => hch u (fun e => ?_)) ?_, hE⟩
      · have od := J.2.1.low (L' := o - 1 + 1) (by omega)
        have := (List.pairwise_cons.mp od).1 f hf u hu (lX (aV s (o - 1 + 1))) (List.mem_singleton.mpr rfl)
        rw [show o - 1 + 1 = o by omega, e] at this
        omega
      · show tK (up1 (aF q) (lX (aV q o)) _ (lX (aV s (o - 1 + 1)))) = 1
        rw [show o - 1 + 1 = o by omega, v2, up1_at]
    | cons d r =>
      obtain ⟨w, n⟩ := d
      rw [hb] at h0
      have h0 : aE (if lU (aV q o) = 20 then sE q 4 else sL q o (up1 (aV q) o (lX (aV q o), lU (aV q o), [], (r.map (fun d => d.1)).reverse ++ [w + 1], [tRun], lZ (aV q o)))) = 0 := h0
      show JR fs (if lU (aV q o) = 20 then sE q 4 else sL q o (up1 (aV q) o (lX (aV q o), lU (aV q o), [], (r.map (fun d => d.1)).reverse ++ [w + 1], [tRun], lZ (aV q o)))) rk ∧ Ev s (if lU (aV q o) = 20 then sE q 4 else sL q o (up1 (aV q) o (lX (aV q o), lU (aV q o), [], (r.map (fun d => d.1)).reverse ++ [w + 1], [tRun], lZ (aV q o))))
      by_cases h20 : lU (aV q o) = 20
      · rw [if_pos h20] at h0
        exact absurd h0 (show ¬ (4 : Nat) = 0 by decide)
      · rw [if_neg h20]
        refine ⟨J.again (o := o) (by omega) ho rfl (fun j hj => ?_) (fun j hj => ?_) ?_ e1 e2 e3 e4, Ev.same (by show aC s ≤ aC q; omega) (fun z _ => by show aF q z = _; rw [e2])⟩
        · show lX (up1 (aV q) o _ j) = _
          rcases up1_or (f := aV q) (x := o) (y := j) (v := (lX (aV q o), lU (aV q o), [], (r.map (fun d => d.1)).reverse ++ [w + 1], [tRun], lZ (aV q o))) with ⟨f1, f2⟩ | ⟨_, f2⟩
          · rw [f2, f1]
            exact v2 o
          · rw [f2]
            exact v2 j
        · show lK (up1 (aV q) o _ j) = _
          rw [up1_ne (by omega)]
          exact v3 j (by omega)
        · show lK (up1 (aV q) o _ o) = _
          rw [up1_at]
