/-! WHAT HOLDS IN EVERY RUN: force, all kinds -/
theorem JR.noop {fs : List Fn} {s : Ac} {rk : Nat → Nat} {t : Tk} {l : List Tk} (J : JR fs s rk) (ht : topK s = t :: l) (h9 : t.1 ≠ 9) (h12 : t.1 ≠ 12) (hw : ∀ y, y < aC s → fcs s t y → tK (aF s (root s y)) < 2) (hc : ∀ w, w < aC s → Cv s [t] w → Cl s w) : JR fs (setK s l) rk ∧ Ev s (setK s l) :=
  J.op0 (s' := setK s l) ht lvs_set rfl rfl rfl rfl (fun n1 a n2 e => by simp at e) List.Pairwise.nil (fun a ha => (List.not_mem_nil ha).elim) (fun y hy hf => Or.inl (hw y hy hf)) (fun w hw2 q => Or.inl (hc w hw2 q)) (fun e h1 => absurd e (J.2.2.2.2.nl ht h9 h12 h1))
theorem JR.eith {fs : List Fn} {h : Bool} {s : Ac} {rk : Nat → Nat} {t : Tk} {l : List Tk} (J : JR fs s rk) (ht : topK s = t :: l) (h0t : t.1 = 0) {x : Nat} (hx : x = root s t.2.1) (h2 : tK (aF s x) = 3) (h0 : aE (forceG fs h (setK s l) x) = 0) : ∃ rk', JR fs (forceG fs h (setK s l) x) rk' ∧ Ev s (forceG fs h (setK s l) x) := by
  obtain ⟨g, od, jt, jk, jl⟩ := J
  have J : JR fs s rk := ⟨g, od, jt, jk, jl⟩
  have hy := (jk (aL s) (Nat.le_refl _) [] t l ht).1 t.2.1 (by unfold mth; rw [h0t]; exact List.mem_singleton.mpr rfl)
  have hmr : t.2.1 ∈ mr t := by unfold mr; rw [h0t]; exact List.mem_singleton.mpr rfl
  have hxl : x < aC s := by rw [hx]; exact g.lt hy.1
  have hxr : rk x ≤ rk t.2.1 := by rw [hx]; exact g.le hy.1
  have hxo : tW (aF s x) ≤ aL s := by
    have := g.own hy.1
    rw [← hx] at this
    omega
  obtain ⟨d, hd⟩ : ∃ d, d = decA (setK s l) (tW (aF s x)) 2 := ⟨_, rfl⟩
  have ef : forceG fs h (setK s l) x = if aE d.2 = 0 then (match (if d.1 = 0 then tA (aF s x) else tB (aF s x)) with
    | some y => push (link d.2 x y) [(0, if h = true then x else y, 0, 0, .nil)]
    | none => d.2) else d.2 := by
    unfold forceG
    rw [show tK (aF (setK s l) x) = 3 from h2, hd]
    rfl
  rw [ef] at h0 ⊢
  by_cases e1 : aE d.2 = 0
  · rw [if_pos e1] at h0 ⊢
    obtain ⟨d', g', e⟩ := decA_go (by rw [← hd]; exact e1)
    rw [← hd] at e
    obtain ⟨z, hz⟩ : ∃ z, (if d.1 = 0 then tA (aF s x) else tB (aF s x)) = some z := by
      have := (jt.1 x hxl).2.2.2.2.2.1 (by omega) (by omega)
      by_cases w : d.1 = 0
      · rw [if_pos w]
        exact Option.isSome_iff_exists.mp this.1
      · rw [if_neg w]
        exact Option.isSome_iff_exists.mp this.2
    obtain ⟨z1, z2, z3⟩ := g.pa hxl (by omega) (show Pa s x z from by
      by_cases w : d.1 = 0
      · rw [if_pos w] at hz
        exact Or.inl hz
      · rw [if_neg w] at hz
        exact Or.inr hz)
    rw [hz]
    show ∃ rk', JR fs (push (link d.2 x z) [(0, if h = true then x else z, 0, 0, .nil)]) rk' ∧ Ev s (push (link d.2 x z) [(0, if h = true then x else z, 0, 0, .nil)])
    have gq : GR d.2 rk := g.eq (by rw [e]; rfl) (by rw [e]; rfl) (by rw [e]; rfl)
    have jq : JT fs d.2 := jt.eq (by rw [e]; rfl) (by rw [e]; rfl) (by rw [e]; rfl) (by rw [e]; rfl)
    have eF : aF d.2 = aF s := by rw [e]; rfl
    have eC : aC d.2 = aC s := by rw [e]; rfl
    obtain ⟨k1, k2⟩ := link_T (x := x) (y := z) gq jq.1 (fun u v hu hv _ _ => jq.2.1 u v hu hv) jq.2.2 (by rw [eC]; exact hxl) (by rw [eC]; exact z1) z2 (by rw [eF]; exact z3)
    obtain ⟨S, hS⟩ : ∃ S, S = push (link d.2 x z) [(0, if h = true then x else z, 0, 0, .nil)] := ⟨_, rfl⟩
    have hch : ∀ v, v ≠ x → aF S v = aF s v := fun v hv => by
      rw [hS, ← eF]
      exact up1_ne hv
    have hxx : aF S x = (7, tO (aF s x), some z, tB (aF s x), tW (aF s x), tP (aF s x), tT (aF s x)) := by
      rw [hS, ← eF]
      exact up1_at
    have hC : aC S = aC s := by rw [hS]; exact eC
    have hEv : Ev s S := Ev.chg (x := x) (by omega) (fun v _ hv => hch v hv) (by rw [hxx]) (by omega) (by omega)
    have hG : GR S rk := by rw [hS]; exact k2.eq rfl rfl rfl
    have hJ : JT fs S := by rw [hS]; exact k1.eq rfl rfl rfl rfl
    have lvS : lvs s S l [(0, if h = true then x else z, 0, 0, .nil)] := by
      rw [hS]
      refine lvs.pu (q := link d.2 x z) ?_
      rw [e]
      exact (lvs_set (s := s) (l := l)).sd
    have tw : ∀ v, tW (aF S v) = tW (aF s v) := fun v => by
      by_cases w : v = x
      · rw [w, hxx]
      · rw [hch v w]
    have rxz : root S x = root S z := root_lk hG.lk (by rw [hC]; exact hxl) (by rw [hxx]) (by rw [hxx])
    have pz : ∀ v, (v = x ∨ v = z) → v < aC s ∧ rk v ≤ rk x ∧ tW (aF s v) ≤ aL s ∧ root S v = root S x := fun v hv => by
      rcases hv with q | q
      · rw [q]
        exact ⟨hxl, Nat.le_refl _, hxo, rfl⟩
      · rw [q]
        exact ⟨z1, by omega, by omega, rxz.symm⟩
    have pv : (if h = true then x else z) = x ∨ (if h = true then x else z) = z := by
      cases h
      · exact Or.inr rfl
      · exact Or.inl rfl
    obtain ⟨p1, p2, p3, p4⟩ := pz _ pv
    rw [← hS]
    refine ⟨rk, J.op1 (x := x) ht lvS hJ hG hEv (fun v _ hv => hch v hv) ⟨_, hmr, hxr⟩ (fun _ _ _ _ _ q => q) (KOL.all ⟨KO.simple (Or.inl rfl) (by rw [hC]; exact p1) (by rw [tw]; exact p3), trivial⟩) (List.pairwise_singleton _ _) (fun a ha y' hy' u _ _ hlt => ?_) (fun y' hy' hfc => ?_) (fun w hw hcw => Or.inl (hEv.cl g hG hw (no_cv ⟨by omega, by omega, by omega⟩ hcw))) (fun e h1 => absurd e (jl.nl ht (by omega) (by omega) h1)), hEv⟩
    · have := hlt _ hmr
      rw [List.mem_singleton.mp ha] at hy'
      have e : y' = (if h = true then x else z) := List.mem_singleton.mp hy'
      rw [e]
      omega
    · rcases hfc with ⟨_, _, q⟩ | ⟨q, _⟩ | ⟨q, _⟩
      · refine Or.inr ⟨[], _, rfl, Or.inl ⟨rfl, by rw [hC]; exact p1, ?_⟩⟩
        show root S (if h = true then x else z) = root S y'
        rw [p4, hEv.rt g hG hy', ← q, ← hx]
      · omega
      · omega
  · rw [if_neg e1] at h0
    exact absurd h0 e1
theorem JR.force {fs : List Fn} {h : Bool} {s : Ac} {rk : Nat → Nat} {t : Tk} {l : List Tk} (hf : PW fs [] none) (J : JR fs s rk) (hE : aE s = 0) (ht : topK s = t :: l) (h0t : t.1 = 0) (hWR : WRc fs (setK s l) (root s t.2.1)) (h0 : aE (forceG fs h (setK s l) (root s t.2.1)) = 0) : ∃ rk', JR fs (forceG fs h (setK s l) (root s t.2.1)) rk' ∧ Ev s (forceG fs h (setK s l) (root s t.2.1)) := by
  obtain ⟨g, od, jt, jk, jl⟩ := J
  have J : JR fs s rk := ⟨g, od, jt, jk, jl⟩
  have hy := (jk (aL s) (Nat.le_refl _) [] t l ht).1 t.2.1 (by unfold mth; rw [h0t]; exact List.mem_singleton.mpr rfl)
  have hxl := g.lt hy.1
  have n7 := g.n7 hy.1
  have k8 := (jt.1 _ hxl).1
  have nop : tK (aF s (root s t.2.1)) < 2 → ∃ rk', JR fs (setK s l) rk' ∧ Ev s (setK s l) := fun k2 => by
    refine ⟨rk, J.noop ht (by omega) (by omega) (fun y hy' hfc => ?_) (fun w _ q => no_cv ⟨by omega, by omega, by omega⟩ q)⟩
    rcases hfc with ⟨_, _, q⟩ | ⟨q, _⟩ | ⟨q, _⟩
    · rw [← q]
      exact k2
    · omega
    · omega
  have kk : tK (aF s (root s t.2.1)) = 0 ∨ tK (aF s (root s t.2.1)) = 1 ∨ tK (aF s (root s t.2.1)) = 2 ∨ tK (aF s (root s t.2.1)) = 3 ∨ (tK (aF s (root s t.2.1)) = 4 ∨ tK (aF s (root s t.2.1)) = 5) ∨ tK (aF s (root s t.2.1)) = 6 := by omega
  rcases kk with k | k | k | k | k | k
  · have e : forceG fs h (setK s l) (root s t.2.1) = setK s l := by
      unfold forceG
      rw [show tK (aF (setK s l) (root s t.2.1)) = 0 from k]
      rfl
    rw [e]
    exact nop (by omega)
  · have e : forceG fs h (setK s l) (root s t.2.1) = setK s l := by
      unfold forceG
      rw [show tK (aF (setK s l) (root s t.2.1)) = 1 from k]
      rfl
    rw [e]
    exact nop (by omega)
  · have e : forceG fs h (setK s l) (root s t.2.1) = callA fs (setK s l) (root s t.2.1) := by
      unfold forceG
      rw [show tK (aF (setK s l) (root s t.2.1)) = 2 from k]
      rfl
    rw [e] at h0 ⊢
    exact J.call hf hE ht h0t k hWR h0
  · exact J.eith ht h0t rfl k h0
  · exact J.same ht h0t rfl k
  · have e : forceG fs h (setK s l) (root s t.2.1) = sL (setK s l) (aL s + 1) (up1 (aV (setK s l)) (aL s + 1) (root s t.2.1, 0, [], [], [tRun], 0)) := by
      unfold forceG
      rw [show tK (aF (setK s l) (root s t.2.1)) = 6 from k]
      rfl
    rw [e]
    obtain ⟨v1, v2, v3, v4⟩ := lvs_set (s := s) (l := l)
    have eu : ∀ j, j ≤ aL s → aV (sL (setK s l) (aL s + 1) (up1 (aV (setK s l)) (aL s + 1) (root s t.2.1, 0, [], [], [tRun], 0))) j = aV (setK s l) j := fun j hj => up1_ne (by omega)
    refine ⟨rk, ?_, Ev.same (Nat.le_refl _) (fun _ _ => rfl)⟩
    have ht' : topK (setK s ((0, t.2.1, 0, 0, .nil) :: l)) = (0, t.2.1, 0, 0, .nil) :: l := topK_setK
    have J' : JR fs (setK s ((0, t.2.1, 0, 0, .nil) :: l)) rk := by
      have lv' : lvs s (setK s ((0, t.2.1, 0, 0, .nil) :: l)) l [(0, t.2.1, 0, 0, .nil)] := ⟨rfl, fun j => (by
        show lX (up1 (aV s) (aL s) _ j) = _
        rcases up1_or (f := aV s) (x := aL s) (y := j) (v := pTk (aV s (aL s)) ((0, t.2.1, 0, 0, .nil) :: l)) with ⟨e1, e2⟩ | ⟨_, e2⟩
        · rw [e2, e1]
          rfl
        · rw [e2]), fun j hj => (by
        show lK (up1 (aV s) (aL s) _ j) = _
        rw [up1_ne (by omega)]), topK_setK⟩
      refine (J.op0 (s' := setK s ((0, t.2.1, 0, 0, .nil) :: l)) ht lv' rfl rfl rfl rfl (KOL.all ⟨KO.simple (Or.inl rfl) hy.1 hy.2, trivial⟩) (List.pairwise_singleton _ _) (fun a ha y' hy' => ?_) (fun y' hy' hfc => Or.inr ⟨[], _, rfl, ?_⟩) (fun w _ q => Or.inl (no_cv ⟨by omega, by omega, by omega⟩ q)) (fun e h1 => absurd e (jl.nl ht (by omega) (by omega) h1))).1
      · rw [List.mem_singleton.mp ha] at hy'
        exact ⟨t.2.1, by unfold mr; rw [h0t]; exact List.mem_singleton.mpr rfl, by rw [List.mem_singleton.mp hy']; exact Nat.le_refl _⟩
      · rcases hfc with ⟨_, q1, q2⟩ | ⟨q, _⟩ | ⟨q, _⟩
        · exact Or.inl ⟨rfl, q1, q2⟩
        · omega
        · omega
    have vX : ∀ j, lX (aV (setK s ((0, t.2.1, 0, 0, .nil) :: l)) j) = lX (aV s j) := fun j => by
      show lX (up1 (aV s) (aL s) _ j) = _
      rcases up1_or (f := aV s) (x := aL s) (y := j) (v := pTk (aV s (aL s)) ((0, t.2.1, 0, 0, .nil) :: l)) with ⟨e1, e2⟩ | ⟨_, e2⟩
      · rw [e2, e1]
        rfl
      · rw [e2]
    have vK : ∀ j, j < aL s → lK (aV (setK s ((0, t.2.1, 0, 0, .nil) :: l)) j) = lK (aV s j) := fun j hj => by
      show lK (up1 (aV s) (aL s) _ j) = _
      rw [up1_ne (by omega)]
    refine J'.more ht' rfl (fun j hj => ?_) ?_ k (fun j hj => ?_) ?_ ?_ rfl rfl rfl rfl
    · rw [eu j hj, v2, vX]
    · show lX (up1 _ (aL s + 1) _ (aL s + 1)) = _
      rw [up1_at]
      rfl
    · have hj : j < aL s := hj
      rw [eu j (by omega), v3 j hj, vK j hj]
    · show lK (aV (sL (setK s l) (aL s + 1) (up1 (aV (setK s l)) (aL s + 1) (root s t.2.1, 0, [], [], [tRun], 0))) (aL s)) = l
      rw [eu _ (Nat.le_refl _)]
      exact v4
    · show lK (up1 _ (aL s + 1) _ (aL s + 1)) = _
      rw [up1_at]
