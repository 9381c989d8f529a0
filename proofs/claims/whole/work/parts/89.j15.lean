/-! WHAT HOLDS IN EVERY RUN: uniting and asking -/
theorem JR.bind {fs : List Fn} {s q : Ac} {rk : Nat → Nat} {t : Tk} {l : List Tk} {x y z : Nat} (J : JR fs s rk) (ht : topK s = t :: l) (h10 : t.1 = 10) (lv : lvs s q l []) (e1 : aC q = aC s) (e2 : aF q = aF s) (e3 : aN q = aN s) (e4 : aP q = aP s) (hx : x < aC s) (hy : y < aC s) (hz : z ∈ mr t ∧ rk y ≤ rk z) (hz2 : ∃ z, z ∈ mr t ∧ rk x ≤ rk z) (hk : tK (aF s x) = 0) (hyr : root s y = y) (hc : Cl s y) (hw : tW (aF s y) ≤ tW (aF s x)) (hn : ¬ Rc s y x) : ∃ rk', JR fs (link q x y) rk' ∧ Ev s (link q x y) := by
  obtain ⟨g, od, jt, jk, jl⟩ := J
  have J : JR fs s rk := ⟨g, od, jt, jk, jl⟩
  obtain ⟨M, hM⟩ := rk_bd rk (aC s)
  have hrx : root s x = x := root_no (by omega)
  have g1 : GR s (rkB s rk M y) := rkB_GR g hM hc (fun v hv => (jt.1 v hv).2.2.1)
  have gq : GR q (rkB s rk M y) := g1.eq e1 e2 e3
  have jq : JT fs q := jt.eq e1 e2 e3 e4
  have yin : rkB s rk M y y = rk y := rkB_in Rc.self
  have xout : rkB s rk M y x = rk x + M := rkB_out (by rw [hrx]; exact hn)
  have hlt : rkB s rk M y y < rkB s rk M y x := by
    rw [yin, xout]
    have := hM y hy
    omega
  obtain ⟨k1, k2⟩ := link_T (x := x) (y := y) gq jq.1 (fun u v hu hv _ _ => jq.2.1 u v hu hv) jq.2.2 (by omega) (by omega) hlt (by rw [e2]; exact hw)
  have hE : Ev s (link q x y) := by
    have k2' : GR (link s x y) (rkB s rk M y) := k2.eq e1.symm (by show up1 (aF s) x _ = up1 (aF q) x _; rw [e2]) e3.symm
    have := link_Ev g k2' hx hy hk hc hlt (fun v hv e => hn (e ▸ hv))
    have ea : aF (link q x y) = aF (link s x y) := by show up1 (aF q) x _ = up1 (aF s) x _; rw [e2]
    refine ⟨by show aC s ≤ aC q; omega, fun v hv => ?_⟩
    obtain ⟨a1, a2, a3, a4⟩ := this.2 v hv
    rw [ea]
    refine ⟨a1, a2, a3, fun k0 => ?_⟩
    have cl := a4 k0
    have er : ∀ v, root (link q x y) v = root (link s x y) v := fun v => by
      unfold root
      rw [ea, show aC (link q x y) = aC (link s x y) from e1]
    intro w hw2
    rw [ea]
    refine cl w ?_
    obtain ⟨n, p, p0, p1, p2⟩ := hw2
    refine ⟨n, p, by rw [← er]; exact p0, p1, fun i hi => ?_⟩
    obtain ⟨r1, w', r2, r3⟩ := p2 i hi
    rw [ea] at r1 r2
    rw [er] at r3
    exact ⟨r1, w', r2, r3⟩
  have hch : ∀ v, v ≠ x → aF (link q x y) v = aF s v := fun v hv => by
    rw [← e2]
    exact up1_ne hv
  refine ⟨rkB s rk M y, J.op1 (s' := link q x y) (x := x) ht lv k1 k2 hE (fun v _ hv => hch v hv) hz2 (fun v u hv hu hfr hr => ?_) (fun n1 a n2 e => by simp at e) List.Pairwise.nil (fun a ha => (List.not_mem_nil ha).elim) (fun y' _ hfc => (no_fcs (by omega) hfc).elim) (fun w hw hcw => Or.inl (hE.cl g k2 hw (no_cv ⟨by omega, by omega, by omega⟩ hcw))) (fun e h1 => absurd e (jl.nl ht (by omega) (by omega) h1)), hE⟩
  obtain ⟨f, hf, hfu⟩ := hfr
  obtain ⟨r1, r2⟩ := J.rest ht
  have hu7 := (J.rng (r1 f hf) hfu).2.1
  have hzu := r2 f hf u hfu z hz.1
  have uout : ¬ Rc s y (root s u) := fun hR => by
    rw [root_no hu7] at hR
    have := (Rc.lt g hy hR).2.1
    omega
  rw [rkB_out uout]
  by_cases vin : Rc s y (root s v)
  · rw [rkB_in vin]
    omega
  · rw [rkB_out vin]
    omega
/-- pairs of parts that are laid -/
theorem pairs_sh {fs : List Fn} {S : Ac} {k a b u : Nat} (da : DKx S a) (db : DKx S b) (ka : tK (aF S a) = 1) (kb : tK (aF S b) = 1) (ho : tO (aF S a) = tO (aF S b)) : pairs k S a b u = [] ∨ (∃ a1 b1, tA (aF S a) = some a1 ∧ tA (aF S b) = some b1 ∧ pairs k S a b u = [(k, a1, b1, u, .nil)]) ∨ ∃ a1 b1 a2 b2, tA (aF S a) = some a1 ∧ tA (aF S b) = some b1 ∧ tB (aF S a) = some a2 ∧ tB (aF S b) = some b2 ∧ pairs k S a b u = [(k, a1, b1, u, .nil), (k, a2, b2, u, .nil)] := by
  obtain ⟨_, a2, a3⟩ := da ka
  obtain ⟨_, b2, b3⟩ := db kb
  rw [← ho] at b2 b3
  unfold pairs
  cases ea : tA (aF S a) with
  | none =>
    rw [ea] at a2
    have h2 : ¬ 2 ≤ tO (aF S a) := fun w => by
      rw [decide_eq_true w] at a2
      cases a2
    rw [decide_eq_false (by omega)] at a3
    cases eb : tB (aF S a) with
    | none => exact Or.inl rfl
    | some v =>
      rw [eb] at a3
      cases a3
  | some v =>
    rw [ea] at a2
    have h2 : 2 ≤ tO (aF S a) := of_decide_eq_true a2.symm
    rw [decide_eq_true h2] at b2
    obtain ⟨v', hv'⟩ := Option.isSome_iff_exists.mp b2
    rw [hv']
    cases eb : tB (aF S a) with
    | none => exact Or.inr (Or.inl ⟨v, v', rfl, rfl, rfl⟩)
    | some w =>
      rw [eb] at a3
      rw [← a3] at b3
      obtain ⟨w', hw'⟩ := Option.isSome_iff_exists.mp b3
      rw [hw']
      exact Or.inr (Or.inr ⟨v, v', w, w', rfl, rfl, rfl, rfl, rfl⟩)
/-- parts are laid to be united, or asked -/
theorem JR.lay {fs : List Fn} {s q : Ac} {rk : Nat → Nat} {k a b u : Nat} {y y' : Nat} {pt : Tr} {l : List Tk} (J : JR fs s rk) (ht : topK s = (k, y, y', u, pt) :: l) (hk : k = 10 ∨ k = 11) (lv : lvs s q l []) (e1 : aC q = aC s) (e2 : aF q = aF s) (e3 : aN q = aN s) (e4 : aP q = aP s) (ea : a = root s y) (eb : b = root s y') (ka : tK (aF s a) = 1) (kb : tK (aF s b) = 1) (ho : tO (aF s a) = tO (aF s b)) (hca : Cl s y) (hcb : Cl s y') : ∃ rk', JR fs (push q (pairs k q a b u)) rk' ∧ Ev s (push q (pairs k q a b u)) := by
  obtain ⟨g, od, jt, jk, jl⟩ := J
  have J : JR fs s rk := ⟨g, od, jt, jk, jl⟩
  obtain ⟨q1, q2⟩ := jk (aL s) (Nat.le_refl _) [] _ l ht
  have hm : mth (k, y, y', u, pt) = [y, y', u] := by rcases hk with e | e <;> rw [e] <;> rfl
  have hmr : mr (k, y, y', u, pt) = [y, y'] := by rcases hk with e | e <;> rw [e] <;> rfl
  rw [hm] at q1
  obtain ⟨y1, y2⟩ := q1 y (List.mem_cons_self ..)
  obtain ⟨y1', y2'⟩ := q1 y' (List.mem_cons_of_mem _ (List.mem_cons_self ..))
  obtain ⟨u1, u2⟩ := q1 u (List.mem_cons_of_mem _ (List.mem_cons_of_mem _ (List.mem_cons_self ..)))
  have la : a < aC s := by rw [ea]; exact g.lt y1
  have lb : b < aC s := by rw [eb]; exact g.lt y1'
  have ra : rk a ≤ rk y := by rw [ea]; exact g.le y1
  have rb : rk b ≤ rk y' := by rw [eb]; exact g.le y1'
  have oa : tW (aF s a) ≤ tW (aF s y) := by rw [ea]; exact g.own y1
  have ob : tW (aF s b) ≤ tW (aF s y') := by rw [eb]; exact g.own y1'
  have da : DKx s a := (jt.1 a la).2.2.2.1
  have db : DKx s b := (jt.1 b lb).2.2.2.1
  have cpa : ∀ w, Pa s a w → Cl s w := fun w hw => by
    refine (Cl_iff.mp hca).2 w ?_ ?_
    · rw [← ea]
      exact ka
    · rw [← ea]
      exact hw
  have cpb : ∀ w, Pa s b w → Cl s w := fun w hw => by
    refine (Cl_iff.mp hcb).2 w ?_ ?_
    · rw [← eb]
      exact kb
    · rw [← eb]
      exact hw
  obtain ⟨S, hS⟩ : ∃ S, S = push q (pairs k q a b u) := ⟨_, rfl⟩
  have ep : pairs k q a b u = pairs k s a b u := by unfold pairs; rw [e2]
  have fC : aC S = aC s := by rw [hS]; exact e1
  have fF : aF S = aF s := by rw [hS]; exact e2
  have fN : aN S = aN s := by rw [hS]; exact e3
  have fP : aP S = aP s := by rw [hS]; exact e4
  have hE : Ev s S := Ev.same (by omega) (fun v _ => by rw [fF])
  have hG : GR S rk := g.eq fC fF fN
  have clS : ∀ w, w < aC s → Cl s w → ∀ l1, Cv S l1 w := fun w hw hc l1 => Or.inl (hE.cl g hG hw hc)
  have ed : ∃ m e r, l = m ++ (e, u, 0, 0, .nil) :: r ∧ (∀ t, t ∈ m → t.1 = k) ∧ ((k = 10 ∧ e = 7) ∨ (k = 11 ∧ e = 8)) ∧ (k = 10 → tW (aF s y) ≤ tW (aF s u) ∧ tW (aF s y') ≤ tW (aF s u)) := by
    rcases hk with e | e
    · subst e
      obtain ⟨_, _, ⟨m, r, h1, h2⟩, h3⟩ := q2
      exact ⟨m, 7, r, h1, h2, Or.inl ⟨rfl, rfl⟩, fun _ => h3⟩
    · subst e
      obtain ⟨_, _, m, r, h1, h2⟩ := q2
      exact ⟨m, 8, r, h1, h2, Or.inr ⟨rfl, rfl⟩, fun w => absurd w (by decide)⟩
  obtain ⟨m, e, r, el, em, ee, ew⟩ := ed
  have kp : ∀ l1 n a1 b1, Pa s a a1 → Pa s b b1 → (∀ t, t ∈ n → t.1 = k) → KO fs S (aL s) l1 (k, a1, b1, u, .nil) (n ++ l) := fun l1 n a1 b1 h1 h2 h3 => by
    obtain ⟨p1, p2, p3⟩ := g.pa la (by omega) h1
    obtain ⟨p4, p5, p6⟩ := g.pa lb (by omega) h2
    have rng : ∀ z, z ∈ [a1, b1, u] → z < aC S ∧ tW (aF S z) ≤ aL s := fun z hz => by
      rw [fC, fF]
      rcases List.mem_cons.mp hz with q | hz
      · rw [q]
        exact ⟨p1, by omega⟩
      · rcases List.mem_cons.mp hz with q | hz
        · rw [q]
          exact ⟨p4, by omega⟩
        · rw [List.mem_singleton.mp hz]
          exact ⟨u1, u2⟩
    have edk : ∃ m r, n ++ l = m ++ (e, u, 0, 0, .nil) :: r ∧ ∀ t, t ∈ m → t.1 = k := ⟨n ++ m, r, by rw [el, List.append_assoc], fun t ht2 => (List.mem_append.mp ht2).elim (h3 t) (em t)⟩
    rcases ee with ⟨k1, k2⟩ | ⟨k1, k2⟩
    · subst k1
      subst k2
      have := ew rfl
      exact ⟨rng, clS _ p1 (cpa _ h1) _, clS _ p4 (cpb _ h2) _, edk, by show tW (aF S a1) ≤ tW (aF S u); rw [fF]; omega, by show tW (aF S b1) ≤ tW (aF S u); rw [fF]; omega⟩
    · subst k1
      subst k2
      exact ⟨rng, clS _ p1 (cpa _ h1) _, clS _ p4 (cpb _ h2) _, edk⟩
  have mrk : ∀ a1 b1, mr (k, a1, b1, u, .nil) = [a1, b1] ∧ frs (k, a1, b1, u, .nil) = [] := fun a1 b1 => by
    rcases hk with e | e <;> rw [e] <;> exact ⟨rfl, rfl⟩
  have lvS : lvs s S l (pairs k s a b u) := by
    rw [hS, ep]
    exact lv.pu
  obtain ⟨new, hnew⟩ : ∃ new, new = pairs k s a b u := ⟨_, rfl⟩
  rw [← hnew] at lvS
  have sh : KOL fs S (aL s) l [] new ∧ ∀ b', b' ∈ new → ∃ a1 b1, b' = (k, a1, b1, u, .nil) ∧ Pa s a a1 ∧ Pa s b b1 := by
    rw [hnew]
    rcases pairs_sh (fs := fs) (k := k) (u := u) da db ka kb ho with e | ⟨a1, b1, h1, h2, e⟩ | ⟨a1, b1, a2, b2, h1, h2, h3, h4, e⟩
    · rw [e]
      exact ⟨trivial, fun b hb => (List.not_mem_nil hb).elim⟩
    · rw [e]
      exact ⟨⟨kp _ [] _ _ (Or.inl h1) (Or.inl h2) (fun t ht2 => (List.not_mem_nil ht2).elim), trivial⟩, fun b' hb => ⟨a1, b1, List.mem_singleton.mp hb, Or.inl h1, Or.inl h2⟩⟩
    · rw [e]
      refine ⟨⟨kp _ [(k, a2, b2, u, .nil)] _ _ (Or.inl h1) (Or.inl h2) (fun t ht2 => by rw [List.mem_singleton.mp ht2]), kp _ [] _ _ (Or.inr h3) (Or.inr h4) (fun t ht2 => (List.not_mem_nil ht2).elim), trivial⟩, fun b' hb => ?_⟩
      rcases List.mem_cons.mp hb with q | q
      · exact ⟨a1, b1, q, Or.inl h1, Or.inl h2⟩
      · exact ⟨a2, b2, List.mem_singleton.mp q, Or.inr h3, Or.inr h4⟩
  obtain ⟨sk, sb⟩ := sh
  rw [← hS]
  have k9 : k ≠ 9 ∧ k ≠ 12 ∧ k ≠ 1 ∧ k ≠ 2 ∧ k ≠ 3 := by omega
  refine ⟨rk, J.op0 (s' := S) ht lvS fC fF fN fP sk.all ?_ (fun b' hb y0 hy0 => ?_) (fun y0 _ hfc => (no_fcs (show k = 1 ∨ k = 2 ∨ k = 3 ∨ k = 4 ∨ k = 5 ∨ k = 9 ∨ k = 10 ∨ k = 11 ∨ k = 12 by omega) hfc).elim) (fun w hw hcw => Or.inl (hE.cl g hG hw (no_cv ⟨k9.2.2.1, k9.2.2.2.1, k9.2.2.2.2⟩ hcw))) (fun e h1 => absurd e (jl.nl ht k9.1 k9.2.1 h1))⟩
  · exact List.Pairwise.imp_of_mem (fun {a b} _ hb _ => (fun v hv => by
      obtain ⟨a1, b1, q, _⟩ := sb _ hb
      rw [q, (mrk a1 b1).2] at hv
      exact (List.not_mem_nil hv).elim : orR rk a b)) (List.pairwise_of_forall (fun _ _ => trivial) : List.Pairwise (fun _ _ => True) new)
  · obtain ⟨a1, b1, q, h1, h2⟩ := sb b' hb
    rw [q, (mrk a1 b1).1] at hy0
    rw [hmr]
    rcases List.mem_cons.mp hy0 with q | q
    · rw [q]
      have := (g.pa la (by omega) h1).2.1
      exact ⟨y, List.mem_cons_self .., by omega⟩
    · rw [List.mem_singleton.mp q]
      have := (g.pa lb (by omega) h2).2.1
      exact ⟨y', List.mem_cons_of_mem _ (List.mem_cons_self ..), by omega⟩
theorem stepA_0 {s : Ac} (h : ¬ aE (stepA s) = 0) (hE : aE s = 0) : aE (stepA s) = 4 := by
  unfold stepA at h ⊢
  split
  · rfl
  · rename_i w
    rw [if_neg w] at h
    exact absurd hE h
theorem JR.unite {fs : List Fn} {s : Ac} {rk : Nat → Nat} {y y' u : Nat} {pt : Tr} {l : List Tk} (J : JR fs s rk) (hE0 : aE s = 0) (ht : topK s = (10, y, y', u, pt) :: l) (h0 : aE (uniteA (setK s l) (root s y) (root s y') u) = 0) : ∃ rk', JR fs (uniteA (setK s l) (root s y) (root s y') u) rk' ∧ Ev s (uniteA (setK s l) (root s y) (root s y') u) := by
  obtain ⟨g, od, jt, jk, jl⟩ := J
  have J : JR fs s rk := ⟨g, od, jt, jk, jl⟩
  obtain ⟨q1, q2, q3, _, q4, q5⟩ := jk (aL s) (Nat.le_refl _) [] _ l ht
  have q1 : ∀ z, z ∈ [y, y', u] → z < aC s ∧ tW (aF s z) ≤ aL s := q1
  obtain ⟨y1, y2⟩ := q1 y (List.mem_cons_self ..)
  obtain ⟨y1', y2'⟩ := q1 y' (List.mem_cons_of_mem _ (List.mem_cons_self ..))
  obtain ⟨u1, u2⟩ := q1 u (List.mem_cons_of_mem _ (List.mem_cons_of_mem _ (List.mem_cons_self ..)))
  have cl0 : ∀ w, Cv s [] w → Cl s w := fun w h => h.elim id (fun ⟨t, ht, _⟩ => (List.not_mem_nil ht).elim)
  have ca : Cl s y := cl0 _ q2
  have cb : Cl s y' := cl0 _ q3
  obtain ⟨a, ha⟩ : ∃ a, a = root s y := ⟨_, rfl⟩
  obtain ⟨b, hb⟩ : ∃ b, b = root s y' := ⟨_, rfl⟩
  rw [← ha, ← hb] at h0 ⊢
  have la : a < aC s := by rw [ha]; exact g.lt y1
  have lb : b < aC s := by rw [hb]; exact g.lt y1'
  have ra : rk a ≤ rk y := by rw [ha]; exact g.le y1
  have rb : rk b ≤ rk y' := by rw [hb]; exact g.le y1'
  have oa : tW (aF s a) ≤ tW (aF s y) := by rw [ha]; exact g.own y1
  have ob : tW (aF s b) ≤ tW (aF s y') := by rw [hb]; exact g.own y1'
  have q4 : tW (aF s y) ≤ tW (aF s u) := q4
  have q5 : tW (aF s y') ≤ tW (aF s u) := q5
  have rra : root s a = a := by rw [ha]; exact g.rr y1
  have rrb : root s b = b := by rw [hb]; exact g.rr y1'
  have ka : tK (aF s a) < 2 := by rw [ha]; exact (Cl_iff.mp ca).1
  have kb : tK (aF s b) < 2 := by rw [hb]; exact (Cl_iff.mp cb).1
  have cla : Cl s a := ca.ro (by rw [rra, ha])
  have clb : Cl s b := cb.ro (by rw [rrb, hb])
  unfold uniteA at h0 ⊢
  by_cases e : a = b
  · rw [if_pos e]
    obtain ⟨j1, j2⟩ := J.noop ht (show (10 : Nat) ≠ 9 by decide) (show (10 : Nat) ≠ 12 by decide) (fun z _ hfc => (no_fcs (show (10 : Nat) = 1 ∨ (10 : Nat) = 2 ∨ (10 : Nat) = 3 ∨ (10 : Nat) = 4 ∨ (10 : Nat) = 5 ∨ (10 : Nat) = 9 ∨ (10 : Nat) = 10 ∨ (10 : Nat) = 11 ∨ (10 : Nat) = 12 by decide) hfc).elim) (fun w _ hcw => no_cv (show (10 : Nat) ≠ 1 ∧ (10 : Nat) ≠ 2 ∧ (10 : Nat) ≠ 3 by decide) hcw)
    exact ⟨rk, j1, j2⟩
  · rw [if_neg e] at h0 ⊢
    by_cases es : aE (stepA (setK s l)) = 0
    · have ek := stepA_k es
      obtain ⟨q, hq⟩ : ∃ q, q = stepA (setK s l) := ⟨_, rfl⟩
      have lv : lvs s q l [] := by rw [hq, ek]; exact lvs_set
      have e1 : aC q = aC s := by rw [hq, ek]; rfl
      have e2 : aF q = aF s := by rw [hq, ek]; rfl
      have e3 : aN q = aN s := by rw [hq, ek]; rfl
      have e4 : aP q = aP s := by rw [hq, ek]; rfl
      have er : ∀ z, root q z = root s z := fun z => by unfold root; rw [e1, e2]
      have eR : ∀ v w, Rc q v w ↔ Rc s v w := fun v w => by
        unfold Rc
        rw [e2, er]
        refine ⟨fun ⟨n, p, p0, p1, p2⟩ => ⟨n, p, p0, p1, fun i hi => ?_⟩, fun ⟨n, p, p0, p1, p2⟩ => ⟨n, p, p0, p1, fun i hi => ?_⟩⟩
        · obtain ⟨r1, w', r2, r3⟩ := p2 i hi
          exact ⟨r1, w', r2, r3.trans (er _)⟩
        · obtain ⟨r1, w', r2, r3⟩ := p2 i hi
          exact ⟨r1, w', r2, r3.trans (er _).symm⟩
      simp only [] at h0 ⊢
      rw [if_pos es, ← hq] at h0 ⊢
      rw [e2] at h0 ⊢
      have bind : ∀ x z zz ww, x < aC s → z < aC s → root s x = x → root s z = z → Cl s x → Cl s z → tK (aF s x) = 0 → zz ∈ mr (10, y, y', u, pt) → rk z ≤ rk zz → ww ∈ mr (10, y, y', u, pt) → rk x ≤ rk ww → tW (aF s x) ≤ tW (aF s u) → tW (aF s z) ≤ tW (aF s u) → x ≠ z → aE (bindA q x z (tW (aF s u))) = 0 → ∃ rk', JR fs (bindA q x z (tW (aF s u))) rk' ∧ Ev s (bindA q x z (tW (aF s u))) := by
        intro x z zz ww lx lz rx rz cx cz kx m1 m2 m3 m4 ox oz hxz hb0
        unfold bindA at hb0 ⊢
        by_cases w1 : Rc q z x
        · rw [if_pos w1] at hb0 ⊢
          exact ⟨rk, J.fail lv e1 e2 e3 e4 u2 hb0⟩
        · rw [if_neg w1, e2] at hb0 ⊢
          by_cases w2 : tW (aF s x) = tW (aF s u)
          · rw [if_pos w2]
            exact J.bind ht rfl lv e1 e2 e3 e4 lx lz ⟨m1, m2⟩ ⟨ww, m3, m4⟩ kx rz cz (by omega) (fun h => w1 ((eR _ _).mpr h))
          · rw [if_neg w2] at hb0 ⊢
            by_cases w3 : tK (aF s z) = 0 ∧ tW (aF s z) = tW (aF s u)
            · rw [if_pos w3]
              refine J.bind ht rfl lv e1 e2 e3 e4 lz lx ⟨m3, m4⟩ ⟨zz, m1, m2⟩ w3.1 rx cx (by omega) (fun h => ?_)
              rcases h.uncons with h | ⟨h, _⟩
              · exact hxz (by rw [h, rx])
              · rw [rx] at h
                omega
            · rw [if_neg w3] at hb0
              exact absurd hb0 (show ¬ (3 : Nat) = 0 by decide)
      by_cases k0 : tK (aF s a) = 0
      · rw [if_pos k0] at h0 ⊢
        exact bind a b y' y la lb rra rrb cla clb k0 (List.mem_cons_of_mem _ (List.mem_cons_self ..)) rb (List.mem_cons_self ..) ra (by omega) (by omega) e h0
      · rw [if_neg k0] at h0 ⊢
        by_cases k1 : tK (aF s b) = 0
        · rw [if_pos k1] at h0 ⊢
          exact bind b a y y' lb la rrb rra clb cla k1 (List.mem_cons_self ..) ra (List.mem_cons_of_mem _ (List.mem_cons_self ..)) rb (by omega) (by omega) (fun w => e w.symm) h0
        · rw [if_neg k1] at h0 ⊢
          by_cases k2 : tO (aF s a) = tO (aF s b)
          · rw [if_pos k2]
            exact J.lay ht (Or.inl rfl) lv e1 e2 e3 e4 ha hb (by omega) (by omega) k2 ca cb
          · rw [if_neg k2] at h0 ⊢
            exact ⟨rk, J.fail lv e1 e2 e3 e4 u2 h0⟩
    · simp only [] at h0
      rw [if_neg es] at h0
      exact absurd h0 es
