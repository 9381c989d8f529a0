/-! HOW MUCH THERE IS: decisions and ways of the levels -/
def NLd (s : Ac) : Prop := ∀ j, j ≤ aL s → lU (aV s j) ≤ 20 ∧ (lD (aV s j)).length + (lG (aV s j)).length ≤ 40 ∧ (∀ d, d ∈ lD (aV s j) → d.1 < d.2 ∧ d.2 < 100) ∧ ∀ w, w ∈ lG (aV s j) → w < 100
def kg (s S : Ac) : Prop := aL S = aL s ∧ ∀ j, lU (aV S j) = lU (aV s j) ∧ lD (aV S j) = lD (aV s j) ∧ lG (aV S j) = lG (aV s j)
theorem kg.rf {s : Ac} : kg s s := ⟨rfl, fun _ => ⟨rfl, rfl, rfl⟩⟩
theorem kg.tr {s s1 s2 : Ac} (h : kg s s1) (h' : kg s1 s2) : kg s s2 := ⟨h'.1.trans h.1, fun j => ⟨(h'.2 j).1.trans (h.2 j).1, (h'.2 j).2.1.trans (h.2 j).2.1, (h'.2 j).2.2.trans (h.2 j).2.2⟩⟩
theorem NLd.kg {s S : Ac} (h : NLd s) (e : kg s S) : NLd S := fun j hj => by
  obtain ⟨a, b, c⟩ := e.2 j
  rw [a, b, c]
  exact h j (by rw [← e.1]; exact hj)
theorem kg_setK {s : Ac} {l : List Tk} : kg s (setK s l) := ⟨rfl, fun j => by
  show lU (up1 (aV s) (aL s) _ j) = _ ∧ lD (up1 (aV s) (aL s) _ j) = _ ∧ lG (up1 (aV s) (aL s) _ j) = _
  rcases up1_or (f := aV s) (x := aL s) (y := j) (v := pTk (aV s (aL s)) l) with ⟨f1, f2⟩ | ⟨_, f2⟩
  · rw [f2, f1]
    exact ⟨rfl, rfl, rfl⟩
  · rw [f2]
    exact ⟨rfl, rfl, rfl⟩⟩
theorem kg_push {s : Ac} {l : List Tk} : kg s (push s l) := kg_setK
theorem kg_step {s : Ac} : kg s (stepA s) := by
  unfold stepA
  split
  · exact kg.rf
  · exact kg.rf
theorem NLd.sd {s : Ac} (h : NLd s) {o : Nat} {d : List (Nat × Nat)} {g : List Nat} (h1 : d.length + g.length ≤ 40) (h2 : ∀ x, x ∈ d → x.1 < x.2 ∧ x.2 < 100) (h3 : ∀ w, w ∈ g → w < 100) : NLd (setD s o d g) := fun j hj => by
  show lU (up1 (aV s) o _ j) ≤ 20 ∧ (lD (up1 (aV s) o _ j)).length + (lG (up1 (aV s) o _ j)).length ≤ 40 ∧ (∀ d, d ∈ lD (up1 (aV s) o _ j) → d.1 < d.2 ∧ d.2 < 100) ∧ ∀ w, w ∈ lG (up1 (aV s) o _ j) → w < 100
  have hj : j ≤ aL s := hj
  rcases up1_or (f := aV s) (x := o) (y := j) (v := (lX (aV s o), lU (aV s o), d, g, lK (aV s o), lZ (aV s o))) with ⟨f1, f2⟩ | ⟨_, f2⟩
  · rw [f2]
    subst f1
    exact ⟨(h j hj).1, h1, h2, h3⟩
  · rw [f2]
    exact h j hj
theorem NLd.dec {s : Ac} (h : NLd s) {o n : Nat} (ho : o ≤ aL s) (hn : n < 100) (h0 : aE (decA s o n).2 = 0) (hr : (decA s o n).1 < n) : NLd (decA s o n).2 := by
  obtain ⟨b1, b2, b3, b4⟩ := h o ho
  unfold decA at h0 hr ⊢
  by_cases w : (lD (aV s o)).length = 40
  · rw [if_pos w] at h0
    exact absurd h0 (show ¬ (4 : Nat) = 0 by decide)
  · rw [if_neg w] at h0 hr ⊢
    cases e : lG (aV s o) with
    | nil =>
      rw [e] at h0 hr b2
      by_cases w2 : o = 0
      · have h0 : aE (if o = 0 then (0, sB s 5 n) else (0, setD s o ((0, n) :: lD (aV s o)) [])).2 = 0 := h0
        rw [if_pos w2] at h0
        exact absurd h0 (show ¬ (5 : Nat) = 0 by decide)
      · have hr : (if o = 0 then (0, sB s 5 n) else (0, setD s o ((0, n) :: lD (aV s o)) [])).1 < n := hr
        rw [if_neg w2] at hr
        show NLd (if o = 0 then (0, sB s 5 n) else (0, setD s o ((0, n) :: lD (aV s o)) [])).2
        rw [if_neg w2]
        refine h.sd (by rw [List.length_cons]; simp at b2 ⊢; omega) (fun x hx => ?_) (fun w hw => (List.not_mem_nil hw).elim)
        rcases List.mem_cons.mp hx with q | q
        · rw [q]
          exact ⟨hr, hn⟩
        · exact b3 x q
    | cons v r =>
      rw [e] at hr b2 b4
      have hr : v < n := hr
      refine h.sd (by rw [List.length_cons] at b2 ⊢; omega) (fun x hx => ?_) (fun w hw => b4 w (List.mem_cons_of_mem _ hw))
      rcases List.mem_cons.mp hx with q | q
      · rw [q]
        exact ⟨hr, hn⟩
      · exact b3 x q
theorem backA_sub : ∀ (l : List (Nat × Nat)), (backA l).length ≤ l.length ∧ ∀ d, d ∈ backA l → d ∈ l
  | [] => ⟨Nat.le_refl _, fun _ h => h⟩
  | (w, n) :: r => by
    obtain ⟨h1, h2⟩ := backA_sub r
    show (if w + 1 = n then backA r else (w, n) :: r).length ≤ ((w, n) :: r).length ∧ ∀ d, d ∈ (if w + 1 = n then backA r else (w, n) :: r) → d ∈ (w, n) :: r
    split
    · exact ⟨by rw [List.length_cons]; omega, fun d hd => List.mem_cons_of_mem _ (h2 d hd)⟩
    · exact ⟨Nat.le_refl _, fun _ h => h⟩
def NLp (s : Ac) : Prop := ¬ liv s (aL s) → lU (aV s (aL s)) < 20
theorem NLd.fail {s : Ac} (h : NLd s) {o : Nat} (ho : o ≤ aL s) (h0 : aE (failA s o) = 0) : NLd (failA s o) ∧ (aL (failA s o) = o → NLp (failA s o)) := by
  obtain ⟨b1, b2, b3, b4⟩ := h o ho
  unfold failA at h0 ⊢
  by_cases q0 : o = 0
  · rw [if_pos q0] at h0
    exact absurd h0 (show ¬ (2 : Nat) = 0 by decide)
  · rw [if_neg q0] at h0 ⊢
    cases hb : backA (lD (aV s o)) with
    | nil =>
      refine ⟨fun j hj => h j ?_, fun e => ?_⟩
      · have hj : j ≤ o - 1 := hj
        omega
      · have e : o - 1 = o := e
        omega
    | cons d r =>
      obtain ⟨w, n⟩ := d
      rw [hb] at h0
      have h0 : aE (if lU (aV s o) = 20 then sE s 4 else sL s o (up1 (aV s) o (lX (aV s o), lU (aV s o), [], (r.map (fun d => d.1)).reverse ++ [w + 1], [tRun], lZ (aV s o)))) = 0 := h0
      show NLd (if lU (aV s o) = 20 then sE s 4 else sL s o (up1 (aV s) o (lX (aV s o), lU (aV s o), [], (r.map (fun d => d.1)).reverse ++ [w + 1], [tRun], lZ (aV s o)))) ∧ (aL (if lU (aV s o) = 20 then sE s 4 else sL s o (up1 (aV s) o (lX (aV s o), lU (aV s o), [], (r.map (fun d => d.1)).reverse ++ [w + 1], [tRun], lZ (aV s o)))) = o → NLp (if lU (aV s o) = 20 then sE s 4 else sL s o (up1 (aV s) o (lX (aV s o), lU (aV s o), [], (r.map (fun d => d.1)).reverse ++ [w + 1], [tRun], lZ (aV s o)))))
      by_cases h20 : lU (aV s o) = 20
      · rw [if_pos h20] at h0
        exact absurd h0 (show ¬ (4 : Nat) = 0 by decide)
      · rw [if_neg h20]
        have hs := backA_sub (lD (aV s o))
        rw [hb] at hs
        obtain ⟨s1, s2⟩ := hs
        refine ⟨fun j hj => ?_, fun _ _ => ?_⟩
        · have hj : j ≤ o := hj
          show lU (up1 (aV s) o _ j) ≤ 20 ∧ (lD (up1 (aV s) o _ j)).length + (lG (up1 (aV s) o _ j)).length ≤ 40 ∧ (∀ d, d ∈ lD (up1 (aV s) o _ j) → d.1 < d.2 ∧ d.2 < 100) ∧ ∀ w, w ∈ lG (up1 (aV s) o _ j) → w < 100
          rcases up1_or (f := aV s) (x := o) (y := j) (v := (lX (aV s o), lU (aV s o), [], (r.map (fun d => d.1)).reverse ++ [w + 1], [tRun], lZ (aV s o))) with ⟨f1, f2⟩ | ⟨_, f2⟩
          · rw [f2]
            refine ⟨b1, ?_, fun d hd => (List.not_mem_nil hd).elim, fun v hv => ?_⟩
            · show 0 + ((r.map (fun d => d.1)).reverse ++ [w + 1]).length ≤ 40
              rw [List.length_append, List.length_reverse, List.length_map]
              rw [List.length_cons] at s1
              show 0 + (r.length + 1) ≤ 40
              omega
            · have hv : v ∈ (r.map (fun d => d.1)).reverse ++ [w + 1] := hv
              rcases List.mem_append.mp hv with q | q
              · obtain ⟨d, hd, e⟩ := List.mem_map.mp (List.mem_reverse.mp q)
                have := b3 d (s2 d (List.mem_cons_of_mem _ hd))
                omega
              · have := b3 (w, n) (s2 _ (List.mem_cons_self ..))
                rw [List.mem_singleton.mp q]
                have e1 : w < n := this.1
                have e2 : n < 100 := this.2
                omega
          · rw [f2]
            exact h j (by omega)
        · show lU (up1 (aV s) o _ o) < 20
          rw [up1_at]
          show lU (aV s o) < 20
          omega
/-- ways that are taken are ways that there are -/
def WRe (s : Ac) (x : Nat) : Prop := tK (aF s x) = 3 → aE (decA s (tW (aF s x)) 2).2 = 0 → (decA s (tW (aF s x)) 2).1 < 2
theorem NLd.call {fs : List Fn} {s : Ac} {x : Nat} {xf : Fn} (hf : PW fs [] none) (hxf : fs[tO (aF s x)]? = some xf) (h : NLd s) (h2 : tK (aF s x) = 2) (ho : tW (aF s x) ≤ aL s) (hWR : WRc fs s x) (h0 : aE (callA fs s x) = 0) : NLd (callA fs s x) := by
  have hru : rulf fs (tO (aF s x)) = xf.2.2 := by
    unfold rulf
    rw [hxf]
  unfold WRc at hWR
  rw [hru] at hWR
  have h24 : xf.2.2.length ≤ 24 := Nat.le_trans (tot_le hxf) hf.2.1
  unfold callA at h0 ⊢
  rw [hru] at h0 ⊢
  by_cases hn : xf.2.2.length = 0
  · rw [if_pos hn] at h0 ⊢
    exact (h.fail ho h0).1
  · rw [if_neg hn] at h0 ⊢
    obtain ⟨d, hd⟩ : ∃ d, d = (if 1 < xf.2.2.length then decA s (tW (aF s x)) xf.2.2.length else (0, s)) := ⟨_, rfl⟩
    have h0 : aE (if aE d.2 = 0 then (if aE (stepA d.2) = 0 then takeR (stepA d.2) x (xf.2.2.getD d.1 (none, none, .nil)) else stepA d.2) else d.2) = 0 := by
      rw [hd]
      exact h0
    have goal : NLd (if aE d.2 = 0 then (if aE (stepA d.2) = 0 then takeR (stepA d.2) x (xf.2.2.getD d.1 (none, none, .nil)) else stepA d.2) else d.2) := by
      by_cases e1 : aE d.2 = 0
      · rw [if_pos e1] at h0 ⊢
        by_cases e2 : aE (stepA d.2) = 0
        · rw [if_pos e2]
          have hq : NLd d.2 := by
            by_cases w : 1 < xf.2.2.length
            · rw [if_pos w] at hd
              rw [hd] at e1 ⊢
              exact h.dec ho (by omega) e1 (hWR h2 w e1)
            · rw [if_neg w] at hd
              rw [hd]
              exact h
          exact (hq.kg kg_step).kg (kg_push (s := takeT (stepA d.2) x (xf.2.2.getD d.1 (none, none, .nil))))
        · rw [if_neg e2] at h0
          exact absurd h0 e2
      · rw [if_neg e1] at h0
        exact absurd h0 e1
    rw [hd] at goal
    exact goal
theorem NLd.force {fs : List Fn} {h : Bool} {s : Ac} {x : Nat} (hf : PW fs [] none) (hN : NLd s) (hxf : tK (aF s x) = 2 → ∃ xf, fs[tO (aF s x)]? = some xf) (ho : tW (aF s x) ≤ aL s) (hWR : WRc fs s x) (hWe : WRe s x) (h0 : aE (forceG fs h s x) = 0) : NLd (forceG fs h s x) := by
  unfold forceG at h0 ⊢
  split at h0
  · rename_i k
    obtain ⟨xf, e⟩ := hxf k
    exact hN.call hf e k ho hWR h0
  · rename_i k
    simp only [] at h0 ⊢
    by_cases e1 : aE (decA s (tW (aF s x)) 2).2 = 0
    · rw [if_pos e1] at h0 ⊢
      have := hN.dec ho (by decide) e1 (hWe k e1)
      split
      · exact this.kg (kg_push (s := link _ _ _))
      · exact this
    · rw [if_neg e1] at h0
      exact absurd h0 e1
  · exact hN.kg kg_push
  · exact hN.kg kg_push
  · intro j hj
    have hj : j ≤ aL s + 1 := hj
    show lU (up1 (aV s) (aL s + 1) _ j) ≤ 20 ∧ (lD (up1 (aV s) (aL s + 1) _ j)).length + (lG (up1 (aV s) (aL s + 1) _ j)).length ≤ 40 ∧ (∀ d, d ∈ lD (up1 (aV s) (aL s + 1) _ j) → d.1 < d.2 ∧ d.2 < 100) ∧ ∀ w, w ∈ lG (up1 (aV s) (aL s + 1) _ j) → w < 100
    rcases up1_or (f := aV s) (x := aL s + 1) (y := j) (v := (x, 0, [], [], [tRun], 0)) with ⟨f1, f2⟩ | ⟨f1, f2⟩
    · rw [f2]
      exact ⟨Nat.zero_le _, Nat.zero_le _, fun d hd => (List.not_mem_nil hd).elim, fun d hd => (List.not_mem_nil hd).elim⟩
    · rw [f2]
      exact hN j (by omega)
  · exact hN
theorem NLd.met {fs : List Fn} {s : Ac} {p : Tr} {x c : Nat} (hN : NLd s) (ho : tW (aF s c) ≤ aL s) (h0 : aE (metA fs s p x c) = 0) : NLd (metA fs s p x c) := by
  unfold metA at h0 ⊢
  simp only [] at h0 ⊢
  split
  · rename_i k
    rw [if_pos k] at h0
    split
    · exact hN
    · exact hN.kg (kg_push (s := metT s x (tcode p - 10)))
  · rename_i k
    rw [if_neg k] at h0
    split
    · exact hN.kg kg_push
    · rename_i k2
      rw [if_neg k2] at h0
      exact (hN.fail ho h0).1
theorem NLd.endc {h : Bool} {s : Ac} {c : Nat} (hN : NLd s) : NLd (endG h s c) := by
  unfold endG
  simp only []
  split
  · exact hN.kg (kg_push (s := link (addT _ _) _ _))
  · exact hN
theorem NLd.bind {s : Ac} {x y o : Nat} (hN : NLd s) (ho : o ≤ aL s) (h0 : aE (bindA s x y o) = 0) : NLd (bindA s x y o) := by
  unfold bindA at h0 ⊢
  by_cases w : Rc s y x
  · rw [if_pos w] at h0 ⊢
    exact (hN.fail ho h0).1
  · rw [if_neg w] at h0 ⊢
    split
    · exact hN
    · split
      · exact hN
      · exact hN
theorem NLd.unite {s : Ac} {a b u : Nat} (hN : NLd s) (ho : tW (aF s u) ≤ aL s) (h0 : aE (uniteA s a b u) = 0) : NLd (uniteA s a b u) := by
  unfold uniteA at h0 ⊢
  by_cases e : a = b
  · rw [if_pos e]
    exact hN
  · rw [if_neg e] at h0 ⊢
    simp only [] at h0 ⊢
    by_cases es : aE (stepA s) = 0
    · rw [if_pos es] at h0 ⊢
      have hq := hN.kg (kg_step (s := s))
      have hL : tW (aF (stepA s) u) ≤ aL (stepA s) := by
        rw [aF_step, (kg_step (s := s)).1]
        exact ho
      by_cases k0 : tK (aF (stepA s) a) = 0
      · rw [if_pos k0] at h0 ⊢
        exact hq.bind hL h0
      · rw [if_neg k0] at h0 ⊢
        by_cases k1 : tK (aF (stepA s) b) = 0
        · rw [if_pos k1] at h0 ⊢
          exact hq.bind hL h0
        · rw [if_neg k1] at h0 ⊢
          by_cases k2 : tO (aF (stepA s) a) = tO (aF (stepA s) b)
          · rw [if_pos k2]
            exact hq.kg kg_push
          · rw [if_neg k2] at h0 ⊢
            exact (hq.fail hL h0).1
    · rw [if_neg es] at h0
      exact absurd h0 es
theorem NLd.ask {s : Ac} {a b u : Nat} (hN : NLd s) : NLd (askA s a b u) := by
  unfold askA
  split
  · exact hN
  · split
    · exact hN
    · simp only []
      split
      · split
        · exact (hN.kg kg_step).kg kg_push
        · exact (hN.kg kg_step).kg (kg_setK (s := stepA s))
      · exact hN.kg kg_step
theorem NLd.run {s : Ac} (hN : NLd s) (h20 : lU (aV s (aL s)) < 20) (h0 : aE (runA s) = 0) (hE : aE s = 0) : NLd (runA s) := by
  by_cases hS : aS s = 100
  · rw [runA_no hS] at h0
    exact absurd h0 (show ¬ (4 : Nat) = 0 by decide)
  · have hgo := runA_go (s := s) hS hE rfl
    rw [hgo]
    have q : NLd (sL (addT (sS s (aS s + 1)) (mkA (aN s (tP (aF s (lX (aV s (aL s)))))) (aL s) (tP (aF s (lX (aV s (aL s))))) (tT (aF s (lX (aV s (aL s))))) (aC s)).2) (aL s) (up1 (aV s) (aL s) (lX (aV s (aL s)), lU (aV s (aL s)) + 1, [], lG (aV s (aL s)), lK (aV s (aL s)), aR s + 1))) := by
      intro j hj
      have hj : j ≤ aL s := hj
      show lU (up1 (aV s) (aL s) _ j) ≤ 20 ∧ (lD (up1 (aV s) (aL s) _ j)).length + (lG (up1 (aV s) (aL s) _ j)).length ≤ 40 ∧ (∀ d, d ∈ lD (up1 (aV s) (aL s) _ j) → d.1 < d.2 ∧ d.2 < 100) ∧ ∀ w, w ∈ lG (up1 (aV s) (aL s) _ j) → w < 100
      obtain ⟨b1, b2, b3, b4⟩ := hN (aL s) (Nat.le_refl _)
      rcases up1_or (f := aV s) (x := aL s) (y := j) (v := (lX (aV s (aL s)), lU (aV s (aL s)) + 1, [], lG (aV s (aL s)), lK (aV s (aL s)), aR s + 1)) with ⟨f1, f2⟩ | ⟨f1, f2⟩
      · rw [f2]
        exact ⟨h20, by show 0 + (lG (aV s (aL s))).length ≤ 40; omega, fun d hd => (List.not_mem_nil hd).elim, b4⟩
      · rw [f2]
        exact hN j hj
    exact (q.kg kg_push).kg (kg_push (s := push _ _))
