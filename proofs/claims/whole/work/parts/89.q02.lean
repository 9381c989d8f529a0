/-! WHAT A VALUE TELLS: what is asked for whole at the lowest level is so at the end -/
def L0k (s S : Ac) (t : Tk) : Prop := ∀ c, c ∈ lK (aV s 0) → c ∈ lK (aV S 0) ∨ c.1 = 11 ∨ c.1 = 8 ∨ (aL s = 0 ∧ c = t)
theorem L0k.lv {s S : Ac} {t : Tk} {l new : List Tk} (ht : topK s = t :: l) (h : lvs s S l new) : L0k s S t := fun c hc => by
  by_cases w : aL s = 0
  · have e : lK (aV S 0) = new ++ l := by
      have := h.2.2.2
      unfold topK at this
      rw [h.1, w] at this
      exact this
    have ht : lK (aV s (aL s)) = t :: l := ht
    rw [w] at ht
    rw [ht] at hc
    rcases List.mem_cons.mp hc with q | q
    · exact Or.inr (Or.inr (Or.inr ⟨w, q⟩))
    · exact Or.inl (by rw [e]; exact List.mem_append_right _ q)
  · rw [h.2.2.1 0 (by omega)]
    exact Or.inl hc
theorem L0k.up {s S : Ac} {t : Tk} (h1 : 1 ≤ aL s) (h : lK (aV S 0) = lK (aV s 0)) : L0k s S t := fun c hc => Or.inl (by rw [h]; exact hc)
theorem L0k.sh {s S : Ac} {t : Tk} {l : List Tk} {o : Nat} (ht : topK s = t :: l) (h : shN s l S o) (ho : o ≤ aL s) (h0 : aE S = 0) : L0k s S t := by
  rcases h with ⟨new, lv, _⟩ | ⟨q, lv, e⟩ | ⟨m, e, r, el, em, e8, lv⟩
  · exact L0k.lv ht lv
  · have w : o ≠ 0 := fun w => by
      rw [e, w] at h0
      exact absurd h0 (show ¬ (2 : Nat) = 0 by decide)
    have e0 : aV (failA q o) 0 = aV q 0 := by
      unfold failA
      rw [if_neg w]
      split
      · rfl
      · split
        · rfl
        · exact up1_ne (by omega)
    exact L0k.up (by omega) (by rw [e, e0]; exact lv.2.2.1 0 (by omega))
  · have ht2 : topK s = t :: (m ++ e :: r) := by rw [ht, el]
    intro c hc
    by_cases w : aL s = 0
    · have e1 : lK (aV S 0) = r := by
        have := lv.2.2.2
        unfold topK at this
        rw [lv.1, w] at this
        exact this
      have ht2 : lK (aV s (aL s)) = t :: (m ++ e :: r) := ht2
      rw [w] at ht2
      rw [ht2] at hc
      rcases List.mem_cons.mp hc with q | q
      · exact Or.inr (Or.inr (Or.inr ⟨w, q⟩))
      · rcases List.mem_append.mp q with q | q
        · exact Or.inr (Or.inl (em c q))
        · rcases List.mem_cons.mp q with q | q
          · exact Or.inr (Or.inr (Or.inl (by rw [q]; exact e8)))
          · exact Or.inl (by rw [e1]; exact q)
    · rw [lv.2.2.1 0 (by omega)]
      exact Or.inl hc
theorem L0k.go {fs : List Fn} {s : Ac} {rk : Nat → Nat} {t : Tk} {l : List Tk} (J : JR fs s rk) (ht : topK s = t :: l) (h0 : aE (doA fs (setK s l) t) = 0) : L0k s (doA fs (setK s l) t) t := by
  obtain ⟨q1, q2⟩ := J.2.2.2.1 (aL s) (Nat.le_refl _) [] t l ht
  have m1 : ∀ {x : Nat} {l : List Nat}, x ∈ x :: l := fun {x l} => List.mem_cons_self ..
  have ls : lvs s (setK s l) l [] := lvs_set
  by_cases k6 : t.1 = 0 ∧ tK (aF s (root s t.2.1)) = 6
  · obtain ⟨t0, k6⟩ := k6
    obtain ⟨k, y, c, d, p⟩ := t
    have t0 : k = 0 := t0
    subst t0
    have e : doA fs (setK s l) (0, y, c, d, p) = sL (setK s l) (aL s + 1) (up1 (aV (setK s l)) (aL s + 1) (root s y, 0, [], [], [tRun], 0)) := by
      show forceG fs false (setK s l) (root s y) = _
      unfold forceG
      rw [show tK (aF (setK s l) (root s y)) = 6 from k6]
      rfl
    have e0 : aV (doA fs (setK s l) (0, y, c, d, p)) 0 = aV (setK s l) 0 := by
      rw [e]
      exact up1_ne (f := aV (setK s l)) (v := (root s y, 0, [], [], [tRun], 0)) (show (0 : Nat) ≠ aL s + 1 by omega)
    have := L0k.lv ht ls
    intro x hx
    rw [e0]
    exact this x hx
  · obtain ⟨k, y, c, d, p⟩ := t
    match k, ht, q1, q2, h0, k6 with
    | 0, ht, q1, _, h0, k6 =>
      show L0k s (forceG fs false (setK s l) (root s y)) _
      exact L0k.sh ht (shN_force (fs := fs) (h := false) ls (fun q => k6 ⟨rfl, q⟩)) (Nat.le_trans (J.1.own (q1 y m1).1) (q1 y m1).2) h0
    | 1, ht, _, _, _, _ => exact L0k.lv ht (ls.pu (new := [(0, y, 0, 0, .nil), (2, y, 0, 0, .nil)]))
    | 2, ht, _, _, _, _ =>
      have e : doA fs (setK s l) (2, y, c, d, p) = if tK (aF s (root s y)) = 1 ∧ aM s (root s y) = 0 then push (setK s l) (oT 1 (tA (aF s (root s y))) ++ oT 1 (tB (aF s (root s y))) ++ [(3, root s y, 0, 0, .nil)]) else setK s l := rfl
      rw [e]
      split
      · exact L0k.lv ht ls.pu
      · exact L0k.lv ht ls
    | 3, ht, _, _, _, _ => exact L0k.lv ht (S := sM (setK s l) (up1 (aM s) y 1)) ls
    | 4, ht, _, _, _, _ =>
      have e : doA fs (setK s l) (4, y, c, d, p) = if tcode p < 10 then nameA (setK s l) c (tcode p) y else push (setK s l) [(0, y, 0, 0, .nil), (5, y, c, d, p)] := rfl
      rw [e]
      split
      · exact L0k.lv ht (S := nameA (setK s l) c (tcode p) y) ls
      · exact L0k.lv ht ls.pu
    | 5, ht, q1, _, h0, _ =>
      show L0k s (metA fs (setK s l) p (root s y) c) _
      exact L0k.sh ht (shp_met (fs := fs) ls).n (q1 c (List.mem_cons_of_mem _ m1)).2 h0
    | 6, ht, _, _, h0, _ =>
      show L0k s (endG false (setK s l) y) _
      exact L0k.sh ht (shN_end (h := false) (c := y) ls) (Nat.zero_le _) h0
    | 7, ht, _, _, _, _ => exact L0k.lv ht (S := data (setK s l) y 1 none none) ls
    | 8, ht, q1, _, h0, _ =>
      show L0k s (failA (setK s l) (tW (aF s y))) _
      exact L0k.sh ht (Or.inr (Or.inl ⟨setK s l, ls, rfl⟩)) (q1 y m1).2 h0
    | 9, ht, _, q2, _, _ =>
      have h1 : 1 ≤ aL s := q2.2.1
      exact L0k.up h1 (show lK (aV (setK s l) 0) = _ from ls.2.2.1 0 (by omega))
    | 10, ht, q1, _, h0, _ =>
      show L0k s (uniteA (setK s l) (root s y) (root s c) d) _
      exact L0k.sh ht (shp_unite ls).n (q1 d (List.mem_cons_of_mem _ (List.mem_cons_of_mem _ m1))).2 h0
    | 11, ht, _, q2, h0, _ =>
      show L0k s (askA (setK s l) (root s y) (root s c) d) _
      exact L0k.sh ht (shp_ask ls q2.2.2).n (Nat.zero_le _) h0
    | 12, ht, _, q2, _, _ =>
      have h1 : 1 ≤ aL s := q2.2.2.1
      refine L0k.up h1 ?_
      show lK (aV (runA (setK s l)) 0) = _
      have e0 : aV (runA (setK s l)) 0 = aV (setK s l) 0 := by
        unfold runA
        simp only []
        split
        · exact up1_ne (show (0 : Nat) ≠ aL s by omega)
        · exact step_L.2 0
      rw [e0]
      exact ls.2.2.1 0 (by omega)
    | 13, ht, _, _, _, _ => exact L0k.lv ht (ls.pu (new := [(10, y, c, d, .nil), (7, d, 0, 0, .nil)]))
    | 14, ht, _, _, _, _ => exact L0k.lv ht (ls.pu (new := [(11, y, c, d, .nil), (8, d, 0, 0, .nil)]))
    | n + 15, _, _, q2, _, _ => exact q2.elim
def GC (s : Ac) (y : Nat) : Prop := y < aC s ∧ Cv s (lK (aV s 0)) y
theorem GC.go {fs : List Fn} {s : Ac} {y : Nat} (hf : PW fs [] none) (A : AA fs s) (hE : aE s = 0) (hWR : WR2 fs s) (h0 : aE (goX (doA fs) s) = 0) (h : GC s y) : GC (goX (doA fs) s) y := by
  obtain ⟨A', E⟩ := A.go hf hE hWR h0
  obtain ⟨⟨⟨rk, J⟩, Mk⟩, _⟩ := A
  obtain ⟨⟨⟨rk', J'⟩, _⟩, _⟩ := A'
  obtain ⟨hy, hc⟩ := h
  refine ⟨Nat.lt_of_lt_of_le hy E.1, ?_⟩
  rcases hc with hc | ⟨c, cm, hc⟩
  · exact Or.inl (E.cl J.1 J'.1 hy hc)
  · cases ht : topK s with
    | nil =>
      unfold goX at h0
      rw [if_pos hE, ht] at h0
      exact absurd h0 (show ¬ (1 : Nat) = 0 by decide)
    | cons t l =>
      have eg := goX_cons (d := doA fs) hE ht
      have lk := L0k.go J ht (by rw [← eg]; exact h0)
      rw [← eg] at lk
      have cov : ∀ c', (c'.1 = 1 ∨ c'.1 = 2) → c'.2.1 = c.2.1 → (c.2.1 < aC s ∧ root s c.2.1 = root s y) → c' ∈ lK (aV (goX (doA fs) s) 0) → Cv (goX (doA fs) s) (lK (aV (goX (doA fs) s) 0)) y := fun c' k e ⟨h2, h3⟩ hm =>
        Or.inr ⟨c', hm, Or.inl ⟨k, by rw [e]; exact Nat.lt_of_lt_of_le h2 E.1, by rw [e]; exact E.req J.1 J'.1 h2 hy h3⟩⟩
      have cov3 : ∀ c', c'.1 = 3 → c'.2.1 = root s y → tK (aF s (root s y)) = 1 → c' ∈ lK (aV (goX (doA fs) s) 0) → Cv (goX (doA fs) s) (lK (aV (goX (doA fs) s) 0)) y := fun c' k e k1 hm => by
        refine Or.inr ⟨c', hm, Or.inr ⟨k, ?_⟩⟩
        rw [E.rt J.1 J'.1 hy, e]
        refine (root_no ?_).symm
        have := ((E.2 _ (J.1.lt hy)).2.2.1 k1).1
        omega
      have k3 : c.1 = 3 → tK (aF s c.2.1) = 1 := fun q => by
        obtain ⟨l1, l2, el⟩ := List.append_of_mem cm
        have := (J.2.2.2.1 0 (Nat.zero_le _) l1 c l2 el).2
        obtain ⟨k, z⟩ := c
        have q : k = 3 := q
        subst q
        exact this.1
      rcases lk c cm with q | q | q | ⟨q, e⟩
      · rcases hc with ⟨h1, h2⟩ | ⟨h1, h2⟩
        · exact cov c h1 rfl h2 q
        · exact cov3 c h1 h2 (by rw [← h2]; exact k3 h1) q
      · omega
      · omega
      · subst e
        have eL : ∀ S : Ac, aL S = 0 → lK (aV S 0) = topK S := fun S hS => by
          unfold topK
          rw [hS]
        obtain ⟨k, z, c2, d, p⟩ := c
        rcases hc with ⟨h1 | h1, h2⟩ | ⟨h1, h2⟩
        · have h1 : k = 1 := h1
          subst h1
          have e : goX (doA fs) s = push (setK s l) [(0, z, 0, 0, .nil), (2, z, 0, 0, .nil)] := eg
          refine cov (2, z, 0, 0, .nil) (Or.inr rfl) rfl h2 ?_
          rw [eL _ (by rw [e]; exact q), e, topK_push]
          exact List.mem_append_left _ (List.mem_cons_of_mem _ (List.mem_cons_self ..))
        · have h1 : k = 2 := h1
          subst h1
          have e : goX (doA fs) s = if tK (aF s (root s z)) = 1 ∧ aM s (root s z) = 0 then push (setK s l) (oT 1 (tA (aF s (root s z))) ++ oT 1 (tB (aF s (root s z))) ++ [(3, root s z, 0, 0, .nil)]) else setK s l := eg
          have hzy : root s z = root s y := h2.2
          by_cases w : tK (aF s (root s z)) = 1 ∧ aM s (root s z) = 0
          · rw [if_pos w] at e
            refine cov3 (3, root s z, 0, 0, .nil) rfl hzy (by rw [← hzy]; exact w.1) ?_
            rw [eL _ (by rw [e]; exact q), e, topK_push]
            exact List.mem_append_left _ (List.mem_append_right _ (List.mem_singleton.mpr rfl))
          · refine Or.inl (E.cl J.1 J'.1 hy ?_)
            have hW := (J.2.2.2.1 (aL s) (Nat.le_refl _) [] _ l ht).2
            have hW : Wf s (aL s) [] z := hW
            have k2 : tK (aF s (root s z)) < 2 := by
              rcases hW with w | ⟨m, b, e, _⟩ | ⟨_, w, _⟩
              · exact w
              · simp at e
              · omega
            by_cases k1 : tK (aF s (root s z)) = 1
            · rcases Mk (root s z) with m0 | ⟨_, _, m2⟩
              · exact absurd ⟨k1, m0⟩ w
              · exact m2.ro (by rw [J.1.rr h2.1]; exact hzy)
            · exact Cl.unb (by rw [← hzy]; omega)
        · have h1 : k = 3 := h1
          subst h1
          refine Or.inl (E.cl J.1 J'.1 hy ?_)
          obtain ⟨_, _, d1, d2⟩ := JR.don J ht rfl
          have h2 : z = root s y := h2
          have d1 : Cl s z := d1
          refine d1.ro ?_
          rw [h2]
          exact J.1.rr hy
