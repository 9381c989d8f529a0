/-! WHAT HOLDS IN EVERY RUN: ends, names, runs within -/
theorem JR.endc {fs : List Fn} (hf8 : fs.length ≤ 8) {h : Bool} {s : Ac} {rk : Nat → Nat} {l : List Tk} {c b1 b2 : Nat} {pt : Tr} (J : JR fs s rk) (ht : topK s = (6, c, b1, b2, pt) :: l) : ∃ rk', JR fs (endG h (setK s l) c) rk' ∧ Ev s (endG h (setK s l) c) := by
  obtain ⟨g, od, jt, jk, jl⟩ := J
  have J : JR fs s rk := ⟨g, od, jt, jk, jl⟩
  obtain ⟨q1, q2, q3⟩ := jk (aL s) (Nat.le_refl _) [] _ l ht
  obtain ⟨hc, hco⟩ := q1 c (List.mem_cons_self ..)
  have q2 : tK (aF s c) = 2 := q2
  have q3 : tT (aF s c) ≠ .nil := q3
  obtain ⟨y, e1, e2, e3, e4, e5, e6, e7, e8, e9, e10⟩ := end_T hf8 (g.eq (s' := setK s l) rfl rfl rfl) (jt.eq (s' := setK s l) rfl rfl rfl rfl) (show c < aC (setK s l) from hc) q2 q3
  have ee : endG h (setK s l) c = push (endT (setK s l) c y) [(0, if h = true then c else y, 0, 0, .nil)] := by
    unfold endG
    show (match (mkL (opsC (setK s l) c) (tW (aF (setK s l) c)) (tP (aF (setK s l) c)) (tT (aF (setK s l) c))).1 with
      | some y => push (link (addT (opsC (setK s l) c) (mkL (opsC (setK s l) c) (tW (aF (setK s l) c)) (tP (aF (setK s l) c)) (tT (aF (setK s l) c))).2) c y) [(0, if h = true then c else y, 0, 0, .nil)]
      | none => _) = _
    rw [e1]
    rfl
  rw [ee]
  obtain ⟨S, hS⟩ : ∃ S, S = push (endT (setK s l) c y) [(0, if h = true then c else y, 0, 0, .nil)] := ⟨_, rfl⟩
  obtain ⟨rk', hrk⟩ : ∃ rk', rk' = rkN (rk1 rk (aC (setK s l)) c) (aC (opsC (setK s l) c)) c := ⟨_, rfl⟩
  rw [← hS]
  rw [← hrk] at e5 e8 e9
  have eF : aF S = aF (endT (setK s l) c y) := by rw [hS]; rfl
  have eC : aC S = aC (endT (setK s l) c y) := by rw [hS]; rfl
  have hG : GR S rk' := e5.eq eC eF (by rw [hS]; rfl)
  have hJ : JT fs S := e4.eq eC eF (by rw [hS]; rfl) (by rw [hS]; rfl)
  have hE : Ev s S := by
    rw [hS]
    exact e6
  have lv : lvs s S l [(0, if h = true then c else y, 0, 0, .nil)] := by
    rw [hS]
    exact lvs.pu (q := endT (setK s l) c y) lvs_set
  have c7 : tK (aF S c) = 7 ∧ tA (aF S c) = some y := by
    rw [eF, e10]
    exact ⟨rfl, rfl⟩
  have rcy : root S c = root S y := root_lk hG.lk (Nat.lt_of_lt_of_le hc hE.1) c7.1 c7.2
  obtain ⟨v, hv⟩ : ∃ v, v = (if h = true then c else y) := ⟨_, rfl⟩
  rw [← hv] at lv
  have vf : v < aC S ∧ tW (aF S v) ≤ aL s ∧ root S v = root S c ∧ ∀ u, u < aC s → rk c < rk u → rk' v < rk' u := by
    cases h with
    | true =>
      rw [if_pos rfl] at hv
      rw [hv]
      exact ⟨Nat.lt_of_lt_of_le hc hE.1, by rw [(hE.2 c hc).1]; exact hco, rfl, fun u hu hr => e8 c u hc hu hr⟩
    | false =>
      rw [if_neg (by decide)] at hv
      rw [hv]
      refine ⟨by rw [eC]; exact e2, ?_, rcy.symm, fun u hu hr => ?_⟩
      · rw [eF]
        have : tW (aF (setK s l) c) ≤ aL s := hco
        omega
      · have := e8 c u hc hu hr
        omega
  refine ⟨rk', J.op1 (x := c) ht lv hJ hG hE (fun z hz hzc => ?_) ⟨c, List.mem_cons_self .., Nat.le_refl _⟩ (fun z u hz hu _ hr => e8 z u hz hu hr) (KOL.all ⟨KO.simple (Or.inl rfl) vf.1 vf.2.1, trivial⟩) (List.pairwise_singleton _ _) (fun a ha y' hy' u hu _ hlt => ?_) (fun y' hy' hfc => ?_) (fun w hw hcw => Or.inl (hE.cl g hG hw (no_cv (show (6 : Nat) ≠ 1 ∧ (6 : Nat) ≠ 2 ∧ (6 : Nat) ≠ 3 by decide) hcw))) (fun e h1 => absurd e (jl.nl ht (show (6 : Nat) ≠ 9 by decide) (show (6 : Nat) ≠ 12 by decide) h1)), hE⟩
  · rw [eF]
    exact e7 z hz hzc
  · rw [List.mem_singleton.mp ha] at hy'
    rw [List.mem_singleton.mp hy']
    exact vf.2.2.2 u hu (hlt c (List.mem_cons_self ..))
  · rcases hfc with ⟨q, _⟩ | ⟨_, q⟩ | ⟨q, _⟩
    · exact absurd q (show ¬ (6 : Nat) = 0 by decide)
    · have q : c = root s y' := q
      refine Or.inr ⟨[], _, rfl, Or.inl ⟨rfl, vf.1, ?_⟩⟩
      show root S v = root S y'
      rw [vf.2.2.1, hE.rt g hG hy', ← q]
    · exact absurd q (show ¬ ((6 : Nat) = 13 ∨ (6 : Nat) = 14) by decide)
/-- SAME or UNLIKE comes to be data -/
theorem JR.told {fs : List Fn} {s q : Ac} {rk : Nat → Nat} {t : Tk} {l : List Tk} {u : Nat} (J : JR fs s rk) (ht : topK s = t :: l) (h78 : t.1 = 7 ∨ t.1 = 8) (hu : t.2.1 = u) (lv : lvs s q l []) (e1 : aC q = aC s) (e2 : aF q = aF s) (e3 : aN q = aN s) (e4 : aP q = aP s) : JR fs (data q u 1 none none) rk ∧ Ev s (data q u 1 none none) := by
  obtain ⟨g, od, jt, jk, jl⟩ := J
  have J : JR fs s rk := ⟨g, od, jt, jk, jl⟩
  obtain ⟨q1, q2⟩ := jk (aL s) (Nat.le_refl _) [] _ l ht
  have hm : u ∈ mr t := by unfold mr; rcases h78 with e | e <;> rw [e] <;> exact List.mem_singleton.mpr hu.symm
  have hc : u < aC s := (q1 u (by unfold mth; rcases h78 with e | e <;> rw [e] <;> exact List.mem_singleton.mpr hu.symm)).1
  have hk : tK (aF s u) = 4 ∨ tK (aF s u) = 5 := by
    rcases h78 with e | e
    · rw [e] at q2
      exact Or.inl (hu ▸ q2)
    · rw [e] at q2
      exact Or.inr (hu ▸ q2)
  have gq : GR q rk := g.eq e1 e2 e3
  have jq : JT fs q := jt.eq e1 e2 e3 e4
  obtain ⟨d1, d2⟩ := data_T (x := u) (k := 1) gq jq (by decide)
  have hch : ∀ z, z ≠ u → aF (data q u 1 none none) z = aF s z := fun z hz => by
    rw [← e2]
    exact up1_ne hz
  have huu : aF (data q u 1 none none) u = (1, 1, none, none, tW (aF s u), tP (aF s u), tT (aF s u)) := by
    rw [← e2]
    exact up1_at
  have hE : Ev s (data q u 1 none none) := Ev.chg (x := u) (by show aC s ≤ aC q; omega) (fun z _ hz => hch z hz) (by rw [huu]) (by omega) (by omega)
  refine ⟨J.op1 (s' := data q u 1 none none) (x := u) ht lv d1 d2 hE (fun z _ hz => hch z hz) ⟨u, hm, Nat.le_refl _⟩ (fun _ _ _ _ _ q => q) (fun n1 a n2 e => by simp at e) List.Pairwise.nil (fun a ha => (List.not_mem_nil ha).elim) (fun y hy hfc => Or.inl ?_) (fun w hw hcw => Or.inl (hE.cl g d2 hw (no_cv ⟨by omega, by omega, by omega⟩ hcw))) (fun e h1 => absurd e (jl.nl ht (by omega) (by omega) h1)), hE⟩
  rcases hfc with ⟨w, _⟩ | ⟨_, w⟩ | ⟨w, _⟩
  · omega
  · rw [hu] at w
    rw [hE.rt g d2 hy, ← w, root_no (by rw [huu]; exact (show (1 : Nat) ≠ 7 by decide)), huu]
    exact (show (1 : Nat) < 2 by decide)
  · omega
/-- a run within has its value -/
theorem JR.val {fs : List Fn} {s : Ac} {rk : Nat → Nat} {t : Tk} {l : List Tk} (J : JR fs s rk) (ht : topK s = t :: l) (h9 : t.1 = 9) : JR fs (sL (data (setK s l) t.2.1 1 none none) (aL s - 1) (aV (setK s l))) rk ∧ Ev s (sL (data (setK s l) t.2.1 1 none none) (aL s - 1) (aV (setK s l))) := by
  obtain ⟨g, od, jt, jk, jl⟩ := J
  have J : JR fs s rk := ⟨g, od, jt, jk, jl⟩
  obtain ⟨q1, q2⟩ := jk (aL s) (Nat.le_refl _) [] _ l ht
  rw [h9] at q2
  obtain ⟨q2, q3, q4⟩ := q2
  obtain ⟨b1, b2, b3, b4⟩ := jl (aL s) q3 (Nat.le_refl _)
  obtain ⟨v1, v2, v3, v4⟩ := lvs_set (s := s) (l := l)
  obtain ⟨d1, d2⟩ := data_T (x := t.2.1) (k := 1) (g.eq (s' := setK s l) rfl rfl rfl) (jt.eq (s' := setK s l) rfl rfl rfl rfl) (by decide)
  have hch : ∀ z, z ≠ t.2.1 → aF (sL (data (setK s l) t.2.1 1 none none) (aL s - 1) (aV (setK s l))) z = aF s z := fun z hz => up1_ne hz
  have hE : Ev s (sL (data (setK s l) t.2.1 1 none none) (aL s - 1) (aV (setK s l))) := by
    refine Ev.chg (x := t.2.1) (Nat.le_refl _) (fun z _ hz => hch z hz) ?_ (by rw [q4]; omega) (by rw [q4]; omega)
    show tW (up1 (aF s) t.2.1 _ t.2.1) = _
    rw [up1_at]
    rfl
  refine ⟨J.pop (L' := aL s - 1) (by omega) rfl (fun j _ => v2 j) (fun j hj => v3 j (by omega)) (d1.eq rfl rfl rfl rfl) (d2.eq rfl rfl rfl) hE (fun f hf u hu => hch u (fun e => ?_)) ?_, hE⟩
  · have o2 := od.low (L' := aL s - 1 + 1) (by omega)
    have := (List.pairwise_cons.mp o2).1 f hf u hu (lX (aV s (aL s - 1 + 1))) (List.mem_singleton.mpr rfl)
    rw [show aL s - 1 + 1 = aL s by omega, e, q4] at this
    omega
  · show tK (up1 (aF s) t.2.1 _ (lX (aV s (aL s - 1 + 1)))) = 1
    rw [show aL s - 1 + 1 = aL s by omega, q4, up1_at]
/-- a run within is made -/
theorem JR.run {fs : List Fn} (hf8 : fs.length ≤ 8) {s : Ac} {rk : Nat → Nat} {t : Tk} {l : List Tk} (J : JR fs s rk) (ht : topK s = t :: l) (h12 : t.1 = 12) (hE0 : aE s = 0) (h0 : aE (runA (setK s l)) = 0) : ∃ rk', JR fs (runA (setK s l)) rk' ∧ Ev s (runA (setK s l)) := by
  obtain ⟨g, od, jt, jk, jl⟩ := J
  have J : JR fs s rk := ⟨g, od, jt, jk, jl⟩
  obtain ⟨q1, q2⟩ := jk (aL s) (Nat.le_refl _) [] _ l ht
  rw [h12] at q2
  obtain ⟨q2, _, q3, _, q4⟩ := q2
  obtain ⟨b1, b2, b3, b4⟩ := jl (aL s) q3 (Nat.le_refl _)
  obtain ⟨v1, v2, v3, v4⟩ := lvs_set (s := s) (l := l)
  subst q2
  by_cases hS : aS s = 100
  · rw [runA_no (s := setK s []) hS] at h0
    exact absurd h0 (show ¬ (4 : Nat) = 0 by decide)
  · have eX : lX (aV (setK s []) (aL s)) = lX (aV s (aL s)) := v2 _
    obtain ⟨x, hx⟩ : ∃ x, x = lX (aV s (aL s)) := ⟨_, rfl⟩
    rw [← hx] at b1 b2 b3 eX
    obtain ⟨y, k1, k2, k3, k4, k5, k6, k7, k8⟩ := run_T hf8 (o := aL s) (g.eq (s' := setK s []) rfl rfl rfl) (jt.eq (s' := setK s []) rfl rfl rfl rfl) (show x < aC (setK s []) from b1) b2 (show tW (aF s x) ≤ aL s by omega)
    have hgo := runA_go (s := setK s []) (r := mkL (setK s []) (aL s) (tP (aF (setK s []) x)) (tT (aF (setK s []) x))) hS hE0 (by rw [show aL (setK s []) = aL s from rfl, eX])
    obtain ⟨S, hSS⟩ : ∃ S, S = runA (setK s []) := ⟨_, rfl⟩
    rw [← hSS] at hgo ⊢
    rw [k1] at hgo
    have eA : aF S = aF (addT (setK s []) (mkL (setK s []) (aL s) (tP (aF (setK s []) x)) (tT (aF (setK s []) x))).2) := by rw [hgo]; rfl
    have eC : aC S = aC (addT (setK s []) (mkL (setK s []) (aL s) (tP (aF (setK s []) x)) (tT (aF (setK s []) x))).2) := by rw [hgo]; rfl
    have hG : GR S (rkN rk (aC (setK s [])) x) := k5.eq eC eA (by rw [hgo]; rfl)
    have hJ : JT fs S := k4.eq eC eA (by rw [hgo]; rfl) (by rw [hgo]; rfl)
    have hch : ∀ z, z < aC s → aF S z = aF s z := fun z hz => by
      rw [eA]
      exact k6 z hz
    have hE : Ev s S := Ev.same (by rw [eC]; exact Nat.le_add_right _ _) hch
    have lvS : lvs s S [] [(1, y, 0, 0, .nil), (9, x, 0, 0, .nil)] := by
      rw [push_push, show aL (setK s []) = aL s from rfl, eX] at hgo
      rw [hgo]
      refine lvs.pu (q := sL (addT (sS (setK s []) (aS (setK s []) + 1)) (mkL (setK s []) (aL s) (tP (aF (setK s []) x)) (tT (aF (setK s []) x))).2) (aL s) (up1 (aV (setK s [])) (aL s) (x, lU (aV (setK s []) (aL s)) + 1, [], lG (aV (setK s []) (aL s)), lK (aV (setK s []) (aL s)), aR (setK s []) + 1))) ?_
      have eu : ∀ j, lX (up1 (aV (setK s [])) (aL s) (x, lU (aV (setK s []) (aL s)) + 1, [], lG (aV (setK s []) (aL s)), lK (aV (setK s []) (aL s)), aR (setK s []) + 1) j) = lX (aV (setK s []) j) ∧ lK (up1 (aV (setK s [])) (aL s) (x, lU (aV (setK s []) (aL s)) + 1, [], lG (aV (setK s []) (aL s)), lK (aV (setK s []) (aL s)), aR (setK s []) + 1) j) = lK (aV (setK s []) j) := fun j => by
        rcases up1_or (f := aV (setK s [])) (x := aL s) (y := j) (v := (x, lU (aV (setK s []) (aL s)) + 1, [], lG (aV (setK s []) (aL s)), lK (aV (setK s []) (aL s)), aR (setK s []) + 1)) with ⟨f1, f2⟩ | ⟨_, f2⟩
        · rw [f2, f1]
          exact ⟨eX.symm, rfl⟩
        · rw [f2]
          exact ⟨rfl, rfl⟩
      exact ⟨rfl, fun j => (eu j).1.trans (v2 j), fun j hj => (eu j).2.trans (v3 j hj), (eu (aL s)).2.trans v4⟩
    obtain ⟨hL, hXs, hKs, hK0⟩ := lvS
    obtain ⟨L', hL'⟩ : ∃ L', aL s = L' + 1 := ⟨aL s - 1, by omega⟩
    have o2 := od.low (L' := L' + 1) (by omega)
    obtain ⟨o3, _⟩ := List.pairwise_cons.mp o2
    rw [show L' + 1 = aL s by omega, ← hx] at o3
    refine ⟨rkN rk (aC (setK s [])) x, J.op ht hL hXs hKs hK0 hJ hG hE (fun f hf u hu => ?_) (fun z u hz hu _ hr => k7 z u hz hu hr) (KOL.all ⟨KO.simple (Or.inr rfl) (by rw [eC]; exact k2) (by rw [eA]; exact k3), ⟨fun z hz => (List.not_mem_nil hz).elim, rfl, q3, by rw [hXs]; exact hx⟩, trivial⟩) (List.pairwise_cons.mpr ⟨fun f hf => ?_, List.pairwise_singleton _ _⟩) (fun a ha f hf u hu y' hy' => ?_) (fun y' _ hfc => (no_fcs (by omega) hfc).elim) (fun w hw hcw => Or.inl (hE.cl g hG hw (no_cv ⟨by omega, by omega, by omega⟩ hcw))) (fun _ _ => ⟨[(1, y, 0, 0, .nil)], _, rfl, Or.inl rfl⟩), hE⟩
    · exact hch u (J.rng ((J.rest ht).1 f hf) hu).1
    · rw [List.mem_singleton.mp hf]
      exact fun u hu => (List.not_mem_nil hu).elim
    · have ur := J.rng ((J.rest ht).1 f hf) hu
      rcases List.mem_cons.mp ha with e | e
      · rw [e] at hy'
        have ey : y' = y := List.mem_singleton.mp hy'
        rw [ey]
        have hf' : f ∈ lowX (aV s) (aL s) := hf
        rw [hL'] at hf'
        rcases List.mem_cons.mp hf' with e2 | e2
        · rw [e2] at hu
          have := List.mem_singleton.mp hu
          rw [this, ← hL', ← hx]
          exact k8
        · have := o3 f e2 u hu x (List.mem_singleton.mpr rfl)
          have := k7 x u b1 ur.1 this
          omega
      · rw [List.mem_singleton.mp e] at hy'
        exact (List.not_mem_nil hy').elim
/-- a name of a pattern -/
theorem JR.name {fs : List Fn} {s : Ac} {rk : Nat → Nat} {t : Tk} {l : List Tk} {y c k : Nat} (J : JR fs s rk) (ht : topK s = t :: l) (h4 : t.1 = 4) (ey : t.2.1 = y) (ec : t.2.2.1 = c) : JR fs (nameA (setK s l) c k y) rk ∧ Ev s (nameA (setK s l) c k y) := by
  obtain ⟨g, od, jt, jk, jl⟩ := J
  have J : JR fs s rk := ⟨g, od, jt, jk, jl⟩
  obtain ⟨q1, q2⟩ := jk (aL s) (Nat.le_refl _) [] _ l ht
  have hm : mth t = [y, c] := by
    unfold mth
    rw [h4, ey, ec]
    rfl
  have hmr : y ∈ mr t := by unfold mr; rw [h4]; exact List.mem_singleton.mpr ey.symm
  rw [hm] at q1
  rw [h4] at q2
  obtain ⟨_, _, q3, q4⟩ := q2
  rw [ec] at q3 q4
  rw [ey] at q4
  obtain ⟨y1, y2⟩ := q1 y (List.mem_cons_self ..)
  obtain ⟨c1, c2⟩ := q1 c (List.mem_cons_of_mem _ (List.mem_cons_self ..))
  obtain ⟨l1, l2, el⟩ := List.append_of_mem q3
  obtain ⟨w1, w2⟩ := jk (aL s) (Nat.le_refl _) (t :: l1) _ l2 (by show topK s = _; rw [ht, el]; rfl)
  have w2 : tK (aF s c) = 2 ∧ tT (aF s c) ≠ .nil := w2
  have hr := (J.rest ht).2 _ (List.mem_append_left _ q3) c (List.mem_cons_self ..) y hmr
  obtain ⟨n1, n2⟩ := name_T (k := k) (g.eq (s' := setK s l) rfl rfl rfl) (jt.eq (s' := setK s l) rfl rfl rfl rfl) (show c < aC (setK s l) from c1) w2.1 w2.2 (show y < aC (setK s l) from y1) hr q4
  have hE : Ev s (nameA (setK s l) c k y) := Ev.same (Nat.le_refl _) (fun _ _ => rfl)
  exact ⟨J.op1 (s' := nameA (setK s l) c k y) (x := y) ht (lvs_set (s := s) (l := l)) n1 n2 hE (fun _ _ _ => rfl) ⟨y, hmr, Nat.le_refl _⟩ (fun _ _ _ _ _ q => q) (fun n1 a n2 e => by simp at e) List.Pairwise.nil (fun a ha => (List.not_mem_nil ha).elim) (fun y' _ hfc => (no_fcs (by omega) hfc).elim) (fun w hw hcw => Or.inl (hE.cl g n2 hw (no_cv ⟨by omega, by omega, by omega⟩ hcw))) (fun e h1 => absurd e (jl.nl ht (by omega) (by omega) h1)), hE⟩
