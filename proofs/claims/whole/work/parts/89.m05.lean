/-! BOTH MACHINES ALIKE: a task with effect -/
theorem nz_inv {s : Ac} {t e : Tk} (hk : t.1 ≠ 2 ∧ t.1 ≠ 5 ∧ t.1 ≠ 13 ∧ t.1 ≠ 14) (h : nz s t = [e]) : e.1 = t.1 ∧ ((t.1 = 0 ∨ t.1 = 1) → e.2.1 = root s t.2.1) ∧ (t.1 = 4 → e = t) ∧ (6 ≤ t.1 → t.1 ≤ 9 → e.2.1 = t.2.1) ∧ ((t.1 = 10 ∨ t.1 = 11) → e.2.1 = t.2.1 ∧ e.2.2.1 = t.2.2.1 ∧ e.2.2.2.1 = t.2.2.2.1) := by
  obtain ⟨k, y, a, b, p⟩ := t
  match k, hk, h with
  | 0, _, h =>
    by_cases w : tK (aF s (root s y)) < 2
    · rw [nz0.1 w] at h
      cases h
    · rw [nz0.2 (Nat.not_lt.mp w)] at h
      cases h
      exact ⟨rfl, fun _ => rfl, fun q => absurd q (show ¬ (0 : Nat) = 4 by decide), fun q => absurd q (show ¬ 6 ≤ (0 : Nat) by decide), fun q => absurd q (show ¬ ((0 : Nat) = 10 ∨ (0 : Nat) = 11) by decide)⟩
  | 1, _, h =>
    by_cases w : Cl s y
    · rw [(nz12 (Or.inl rfl)).1 w] at h
      cases h
    · rw [(nz12 (Or.inl rfl)).2 w] at h
      cases h
      exact ⟨rfl, fun _ => rfl, fun q => absurd q (show ¬ (1 : Nat) = 4 by decide), fun q => absurd q (show ¬ 6 ≤ (1 : Nat) by decide), fun q => absurd q (show ¬ ((1 : Nat) = 10 ∨ (1 : Nat) = 11) by decide)⟩
  | 2, hk, _ => exact absurd rfl hk.1
  | 3, _, h => cases h
  | 4, _, h =>
    cases h
    exact ⟨rfl, fun q => absurd q (show ¬ ((4 : Nat) = 0 ∨ (4 : Nat) = 1) by decide), fun _ => rfl, fun q => absurd q (show ¬ 6 ≤ (4 : Nat) by decide), fun q => absurd q (show ¬ ((4 : Nat) = 10 ∨ (4 : Nat) = 11) by decide)⟩
  | 5, hk, _ => exact absurd rfl hk.2.1
  | 6, _, h =>
    cases h
    exact ⟨rfl, fun q => absurd q (show ¬ ((6 : Nat) = 0 ∨ (6 : Nat) = 1) by decide), fun q => absurd q (show ¬ (6 : Nat) = 4 by decide), fun _ _ => rfl, fun q => absurd q (show ¬ ((6 : Nat) = 10 ∨ (6 : Nat) = 11) by decide)⟩
  | 7, _, h =>
    cases h
    exact ⟨rfl, fun q => absurd q (show ¬ ((7 : Nat) = 0 ∨ (7 : Nat) = 1) by decide), fun q => absurd q (show ¬ (7 : Nat) = 4 by decide), fun _ _ => rfl, fun q => absurd q (show ¬ ((7 : Nat) = 10 ∨ (7 : Nat) = 11) by decide)⟩
  | 8, _, h =>
    cases h
    exact ⟨rfl, fun q => absurd q (show ¬ ((8 : Nat) = 0 ∨ (8 : Nat) = 1) by decide), fun q => absurd q (show ¬ (8 : Nat) = 4 by decide), fun _ _ => rfl, fun q => absurd q (show ¬ ((8 : Nat) = 10 ∨ (8 : Nat) = 11) by decide)⟩
  | 9, _, h =>
    cases h
    exact ⟨rfl, fun q => absurd q (show ¬ ((9 : Nat) = 0 ∨ (9 : Nat) = 1) by decide), fun q => absurd q (show ¬ (9 : Nat) = 4 by decide), fun _ _ => rfl, fun q => absurd q (show ¬ ((9 : Nat) = 10 ∨ (9 : Nat) = 11) by decide)⟩
  | 10, _, h =>
    cases h
    exact ⟨rfl, fun q => absurd q (show ¬ ((10 : Nat) = 0 ∨ (10 : Nat) = 1) by decide), fun q => absurd q (show ¬ (10 : Nat) = 4 by decide), fun _ _ => rfl, fun _ => ⟨rfl, rfl, rfl⟩⟩
  | 11, _, h =>
    cases h
    exact ⟨rfl, fun q => absurd q (show ¬ ((11 : Nat) = 0 ∨ (11 : Nat) = 1) by decide), fun q => absurd q (show ¬ (11 : Nat) = 4 by decide), fun _ _ => rfl, fun _ => ⟨rfl, rfl, rfl⟩⟩
  | 12, _, h =>
    cases h
    exact ⟨rfl, fun q => absurd q (show ¬ ((12 : Nat) = 0 ∨ (12 : Nat) = 1) by decide), fun q => absurd q (show ¬ (12 : Nat) = 4 by decide), fun _ q => absurd q (show ¬ (12 : Nat) ≤ 9 by decide), fun q => absurd q (show ¬ ((12 : Nat) = 10 ∨ (12 : Nat) = 11) by decide)⟩
  | 13, hk, _ => exact absurd rfl hk.2.2.1
  | 14, hk, _ => exact absurd rfl hk.2.2.2
  | n + 15, _, h => cases h
/-- a task with effect is for one thing -/
theorem nz_qs {s : Ac} {t : Tk} (hk : t.1 ≠ 2 ∧ t.1 ≠ 5 ∧ t.1 ≠ 13 ∧ t.1 ≠ 14 ∧ t.1 < 13) (h : ¬ silQ s t) : ∃ e, nz s t = [e] := by
  obtain ⟨k, y, a, b, p⟩ := t
  match k, hk, h with
  | 0, _, h =>
    by_cases w : tK (aF s (root s y)) < 2
    · exact absurd (Or.inl ⟨rfl, w⟩) h
    · exact ⟨_, nz0.2 (Nat.not_lt.mp w)⟩
  | 1, _, h =>
    by_cases w : Cl s y
    · exact absurd (Or.inr (Or.inl ⟨rfl, w⟩)) h
    · exact ⟨_, (nz12 (Or.inl rfl)).2 w⟩
  | 2, hk, _ => exact absurd rfl hk.1
  | 3, _, h => exact absurd (Or.inr (Or.inr rfl)) h
  | 4, _, _ => exact ⟨_, rfl⟩
  | 5, hk, _ => exact absurd rfl hk.2.1
  | 6, _, _ => exact ⟨_, rfl⟩
  | 7, _, _ => exact ⟨_, rfl⟩
  | 8, _, _ => exact ⟨_, rfl⟩
  | 9, _, _ => exact ⟨_, rfl⟩
  | 10, _, _ => exact ⟨_, rfl⟩
  | 11, _, _ => exact ⟨_, rfl⟩
  | 12, _, _ => exact ⟨_, rfl⟩
  | 13, hk, _ => exact absurd rfl hk.2.2.1
  | n + 14, hk, _ =>
    have := hk.2.2.2.2
    have this : n + 14 < 13 := this
    omega
theorem RRx.act {fs : List Fn} {q a : Ac} {ta tq : Tk} {la lq : List Tk} (hf : PW fs [] none) (hA : AA fs a) (hQ : QQ fs q) (hR : RRx q a) (hE : aE a = 0) (ha : topK a = ta :: la) (hq : topK q = tq :: lq) (na : ¬ silA a ta) (nq : ¬ silQ a tq) (hWR : WR2 fs a) : RRx (goX (doQ fs) q) (goX (doA fs) a) := by
  obtain ⟨K, M, e, A⟩ := hR
  have A := A hE
  have hEq : aE q = 0 := by rw [e]; exact hE
  have hgo := fun h0 => AA.go hf hA hE hWR h0
  rw [goX_cons hE ha] at hgo ⊢
  rw [goX_cons hEq hq]
  obtain ⟨⟨⟨rk, J⟩, MA⟩, N, Z, T⟩ := hA
  obtain ⟨⟨⟨rq, Jq⟩, MQ, KQ'⟩, Nq, Zq, Tq⟩ := hQ
  have hK : K (aL a) = tq :: lq := by
    rw [e] at hq
    exact hq
  have hlq : ∀ j, lK (aV q j) = K j := fun j => by rw [e]; rfl
  have eLq : aL q = aL a := by rw [e]; rfl
  have eFq : aF q = aF a := by rw [e]; rfl
  have eCq : aC q = aC a := by rw [e]; rfl
  have eRq : ∀ z, root q z = root a z := fun z => by rw [e]; rfl
  have eA := A (aL a) (Nat.le_refl _)
  rw [hK] at eA
  have eA : nz a tq ++ er a lq = nz a ta ++ er a la := by
    have h : er a (topK a) = nz a ta ++ er a la := by rw [ha]; rfl
    exact eA.trans h
  have hKq := KQ' (aL q) (Nat.le_refl _) tq (by show tq ∈ topK q; rw [hq]; exact List.mem_cons_self ..)
  have hKOq := Jq.2.2.2.1 (aL q) (Nat.le_refl _) [] tq lq hq
  have hKOa := J.2.2.2.1 (aL a) (Nat.le_refl _) [] ta la ha
  have tq13 : tq.1 < 13 := Classical.byContradiction fun w => by
    obtain ⟨k, y, b, c, p⟩ := tq
    have w : ¬ k < 13 := w
    match k, w, hKq, hKOq.2 with
    | 13, _, hKq, _ => exact hKq.2.2.1 rfl
    | 14, _, hKq, _ => exact hKq.2.2.2 rfl
    | n + 15, _, _, h => exact h
  obtain ⟨eq, heq⟩ := nz_qs ⟨hKq.1, hKq.2.1, hKq.2.2.1, hKq.2.2.2, tq13⟩ nq
  obtain ⟨i1, i2, i3, i4, i5⟩ := nz_inv hKq heq
  obtain ⟨p, hp⟩ : ∃ p, p = setK a la := ⟨_, rfl⟩
  have pC : aC p = aC a := by rw [hp]; rfl
  have pF : aF p = aF a := by rw [hp]; rfl
  have pL : aL p = aL a := by rw [hp]; rfl
  obtain ⟨K1, hK1⟩ : ∃ K1, K1 = up1 K (aL a) lq := ⟨_, rfl⟩
  have ep : setK q lq = wk p K1 M := by rw [hp, wk_setK, hK1, e, setK_wk]
  have pKl : ∀ j, j ≠ aL a → lK (aV p j) = lK (aV a j) := fun j hj => by
    rw [hp]
    show lK (up1 (aV a) (aL a) _ j) = _
    rw [up1_ne hj]
  have pKt : lK (aV p (aL a)) = la := by
    rw [hp]
    exact topK_setK
  have memK : ∀ j, ∀ t, t ∈ K1 j → t ∈ K j := fun j t h => by
    rw [hK1] at h
    by_cases w : j = aL a
    · subst w
      rw [up1_at] at h
      rw [hK]
      exact List.mem_cons_of_mem _ h
    · rw [up1_ne w] at h
      exact h
  have memA : ∀ j, ∀ t, t ∈ lK (aV p j) → t ∈ lK (aV a j) := fun j t h => by
    by_cases w : j = aL a
    · subst w
      rw [pKt] at h
      show t ∈ topK a
      rw [ha]
      exact List.mem_cons_of_mem _ h
    · rw [pKl j w] at h
      exact h
  have done : ∀ (M' : Nat → Nat) (ea : Tk), nz a ta = [ea] → (AL0 p K1 → SAME p K1 M' (doQ fs (wk p K1 M) tq) (doA fs p ta)) → RRx (doQ fs (setK q lq) tq) (doA fs (setK a la) ta) := fun M' ea hea hs => by
    rw [ep, ← hp]
    have tl : er a lq = er a la := by
      rw [heq, hea] at eA
      exact (List.cons.inj eA).2
    have A1 : AL0 p K1 := fun j hj => by
      rw [er_eq pC pF, er_eq pC pF]
      rw [pL] at hj
      by_cases w : j = aL a
      · subst w
        rw [hK1, up1_at, pKt]
        exact tl
      · rw [hK1, up1_ne w, pKl j w]
        exact A j hj
    obtain ⟨K', h1, h2⟩ := hs A1
    refine ⟨K', M', h1, fun h0 => ?_⟩
    rw [hp] at h0
    obtain ⟨⟨⟨⟨rk', J'⟩, _⟩, _⟩, hEv⟩ := hgo h0
    rw [← hp] at h0 J' hEv
    refine AL0.after hEv J.1 J'.1 pC pF (fun j hj t ht y hy => ?_) (fun j hj t ht y hy => ?_) (h2 h0)
    · rw [pL] at hj
      have h := memK j t ht
      rw [← hlq] at h
      obtain ⟨l1, l2, el⟩ := List.append_of_mem h
      have := ((Jq.2.2.2.1 j (by omega) l1 t l2 el).1 y hy).1
      rw [eCq] at this
      exact this
    · rw [pL] at hj
      have h := memA j t ht
      obtain ⟨l1, l2, el⟩ := List.append_of_mem h
      exact ((J.2.2.2.1 j hj l1 t l2 el).1 y hy).1
  have hd : ∀ ea, nz a ta = [ea] → eq = ea := fun ea hea => by
    rw [heq, hea] at eA
    exact (List.cons.inj eA).1
  have hWf : ∀ y, Wf a (aL a) [] y → tK (aF a (root a y)) < 2 := fun y w => by
    rcases w with w | ⟨m, b, e, _⟩ | ⟨_, w, _⟩
    · exact w
    · simp at e
    · omega
  have gp : GR p rk := J.1.eq pC pF (by rw [hp]; rfl)
  have jp : JT fs p := J.2.2.1.eq pC pF (by rw [hp]; rfl) (by rw [hp]; rfl)
  have rp : ∀ z, root p z = root a z := fun z => by rw [hp]; rfl
  have clp : ∀ z, Cl p z ↔ Cl a z := fun z => by rw [hp]; exact Iff.rfl
  have ka : ta.1 < 15 := Classical.byContradiction fun w => by
    obtain ⟨k, y, b, c, p⟩ := ta
    have w : ¬ k < 15 := w
    match k, w, hKOa.2 with
    | n + 15, _, h => exact h
  obtain ⟨kq, yq, bq, cq, tr⟩ := tq
  obtain ⟨k, y, b, c, pt⟩ := ta
  obtain ⟨q1, q2⟩ := hKOa
  have r0 : ∀ z, z < aC a → root a (root a z) = root a z := fun z hz => J.1.rr hz
  match k, ka, na, q1, q2, done, hd with
  | 0, _, na, q1, _, done, hd =>
    have hy := q1 y (List.mem_cons_self ..)
    have un : 2 ≤ tK (aF a (root a y)) := Nat.not_lt.mp fun w => na (Or.inl ⟨Or.inl rfl, w⟩)
    have hea := (nz0 (s := a) (y := y) (a := b) (b := c) (p := pt)).2 un
    have e1 := hd _ hea
    rw [e1] at i1 i2
    have i1 : 0 = kq := i1
    subst i1
    have i2 : root a y = root a yq := i2 (Or.inl rfl)
    refine done M _ hea (fun A1 => ?_)
    have hx := J.1.lt hy.1
    show SAME p K1 M (forceG fs true (wk p K1 M) (root p yq)) (forceG fs false p (root p y))
    rw [rp, rp, ← i2]
    refine SAME.force A1 gp (by rw [pC]; exact hx) (fun z hz => ?_) ?_
    · obtain ⟨z1, z2, z3⟩ := gp.pa (by rw [pC]; exact hx) (by rw [pF]; exact J.1.n7 hy.1) hz
      exact ⟨rk, (link_T gp jp.1 (fun u v hu hv _ _ => jp.2.1 u v hu hv) jp.2.2 (by rw [pC]; exact hx) z1 z2 z3).2⟩
    · rw [pF, pL]
      exact Nat.le_trans (J.1.own hy.1) hy.2
  | 1, _, na, q1, _, done, hd =>
    have hy := q1 y (List.mem_cons_self ..)
    have un : 2 ≤ tK (aF a (root a y)) := Nat.not_lt.mp fun w => na (Or.inl ⟨Or.inr (Or.inl rfl), w⟩)
    have nc : ¬ Cl a y := fun h => by
      have := (Cl_iff.mp h).1
      omega
    have hea := (nz12 (s := a) (k := 1) (y := y) (a := b) (b := c) (p := pt) (Or.inl rfl)).2 nc
    have e1 := hd _ hea
    rw [e1] at i1 i2
    have i1 : 1 = kq := i1
    subst i1
    have i2 : root a y = root a yq := i2 (Or.inr rfl)
    refine done M _ hea (fun A1 => ?_)
    have eq1 : doQ fs (wk p K1 M) (1, yq, bq, cq, tr) = push (wk p K1 M) [(0, root a y, 0, 0, .nil), (1, root a y, 0, 0, .nil)] := by
      have h1 : root (wk p K1 M) yq = root a y := by
        show root p yq = _
        rw [rp, i2]
      have : doQ fs (wk p K1 M) (1, yq, bq, cq, tr) = push (wk p K1 M) [(0, root (wk p K1 M) yq, 0, 0, .nil), (1, root (wk p K1 M) yq, 0, 0, .nil)] := if_pos (by
        rw [h1]
        show 2 ≤ tK (aF p (root a y))
        rw [pF]
        exact un)
      rw [this, h1]
    rw [eq1]
    show SAME p K1 M (push (wk p K1 M) [(0, root a y, 0, 0, .nil), (1, root a y, 0, 0, .nil)]) (push p [(0, y, 0, 0, .nil), (2, y, 0, 0, .nil)])
    refine SAME.pu (X := p) A1 rfl rfl (fun _ _ => rfl) ?_
    have hrr := r0 y hy.1
    have nc2 : ¬ Cl a (root a y) := fun h => nc (h.ro hrr)
    rw [er_eq pC pF, er_eq pC pF]
    show nz a (0, root a y, 0, 0, .nil) ++ (nz a (1, root a y, 0, 0, .nil) ++ []) = nz a (0, y, 0, 0, .nil) ++ (nz a (2, y, 0, 0, .nil) ++ [])
    rw [(nz0 (s := a) (y := root a y)).2 (by rw [hrr]; exact un), (nz0 (s := a) (y := y)).2 un, (nz12 (s := a) (y := root a y) (Or.inl rfl)).2 nc2, (nz12 (s := a) (y := y) (Or.inr rfl)).2 nc, hrr]
  | 2, _, na, q1, q2, done, hd =>
    have hy := q1 y (List.mem_cons_self ..)
    have nc : ¬ Cl a y := fun h => na (Or.inr (Or.inl ⟨rfl, h⟩))
    have hfo := hWf y q2
    have k1 : tK (aF a (root a y)) = 1 := by
      by_cases w : tK (aF a (root a y)) = 0
      · exact absurd (Cl.unb w) nc
      · omega
    have m0 : aM a (root a y) = 0 := by
      rcases MA (root a y) with w | ⟨_, _, w⟩
      · exact w
      · exact absurd (w.ro (r0 y hy.1)) nc
    have hea := (nz12 (s := a) (k := 2) (y := y) (a := b) (b := c) (p := pt) (Or.inr rfl)).2 nc
    have e1 := hd _ hea
    rw [e1] at i1 i2
    have i1 : 1 = kq := i1
    subst i1
    have i2 : root a y = root a yq := i2 (Or.inr rfl)
    have mq : aM q (root q yq) ≠ lZ (aV q (aL q)) := fun h => by
      have := MQ.cl Jq hq rfl h
      have this : Cl a yq := by
        have h2 := this
        rw [e] at h2
        exact h2
      exact nc (this.ro i2.symm)
    have zq : lZ (aV (wk p K1 M) (aL p)) = lZ (aV q (aL q)) := by
      rw [← ep, pL, ← eLq]
      exact (kz_setK (s := q) (l := lq)).2.2 _
    have Mq : M = aM q := by rw [e]; rfl
    refine done (up1 M (root a y) (lZ (aV q (aL q)))) _ hea (fun A1 => ?_)
    have ea : doA fs p (2, y, b, c, pt) = push p (oT 1 (tA (aF p (root p y))) ++ oT 1 (tB (aF p (root p y))) ++ [(3, root p y, 0, 0, .nil)]) := if_pos (by
      rw [pF, rp]
      refine ⟨k1, ?_⟩
      rw [hp]
      exact m0)
    have h1 : root (wk p K1 M) yq = root p y := by
      show root p yq = _
      rw [rp, rp, i2]
    have eq1 : doQ fs (wk p K1 M) (1, yq, bq, cq, tr) = push (sM (wk p K1 M) (up1 M (root p y) (lZ (aV q (aL q))))) (oT 1 (tA (aF p (root p y))) ++ oT 1 (tB (aF p (root p y))) ++ [(3, root p y, 0, 0, .nil)]) := by
      have h2 : ¬ 2 ≤ tK (aF (wk p K1 M) (root (wk p K1 M) yq)) := by
        rw [h1]
        show ¬ 2 ≤ tK (aF p (root p y))
        rw [pF, rp]
        omega
      refine (if_neg h2).trans ?_
      have h3 : tK (aF (wk p K1 M) (root (wk p K1 M) yq)) = 1 ∧ aM (wk p K1 M) (root (wk p K1 M) yq) ≠ lZ (aV (wk p K1 M) (aL (wk p K1 M))) := by
        rw [h1]
        refine ⟨?_, ?_⟩
        · show tK (aF p (root p y)) = 1
          rw [pF, rp]
          exact k1
        · show M (root p y) ≠ lZ (aV (wk p K1 M) (aL p))
          rw [zq, Mq, rp, i2, ← eRq]
          exact mq
      refine (if_pos h3).trans ?_
      show push (sM (wk p K1 M) (up1 M (root (wk p K1 M) yq) (lZ (aV (wk p K1 M) (aL p))))) (oT 1 (tA (aF p (root (wk p K1 M) yq))) ++ oT 1 (tB (aF p (root (wk p K1 M) yq))) ++ [(3, root (wk p K1 M) yq, 0, 0, .nil)]) = _
      rw [h1, zq]
    rw [eq1, ea, rp]
    exact SAME.pu (X := p) (Xq := sM (wk p K1 M) (up1 M (root a y) (lZ (aV q (aL q))))) A1 rfl rfl (fun _ _ => rfl) rfl
  | 3, _, na, _, _, _, _ => exact absurd (Or.inr (Or.inr (Or.inl rfl))) na
  | 4, _, na, q1, q2, done, hd =>
    have hy := q1 y (List.mem_cons_self ..)
    have hea : nz a (4, y, b, c, pt) = [(4, y, b, c, pt)] := rfl
    have e1 := hd _ hea
    rw [e1] at i1 i3
    have i1 : 4 = kq := i1
    subst i1
    have i3 : (4, y, b, c, pt) = (4, yq, bq, cq, tr) := i3 rfl
    rw [← i3]
    rw [← i3] at done
    by_cases w : tcode pt < 10
    · refine done M _ hea (fun A1 => ?_)
      have ea : doA fs p (4, y, b, c, pt) = nameA p b (tcode pt) y := if_pos w
      have eq1 : doQ fs (wk p K1 M) (4, y, b, c, pt) = nameA (wk p K1 M) b (tcode pt) y := if_pos w
      rw [ea, eq1]
      exact SAME.keep (X := nameA p b (tcode pt) y) A1 rfl (fun _ => ⟨Nat.le_refl _, fun _ _ => rfl⟩)
    · have un : 2 ≤ tK (aF a (root a y)) := Nat.not_lt.mp fun h => na (Or.inl ⟨Or.inr (Or.inr ⟨rfl, by show 10 ≤ tcode pt; omega⟩), h⟩)
      refine done M _ hea (fun A1 => ?_)
      have ea : doA fs p (4, y, b, c, pt) = push p [(0, y, 0, 0, .nil), (5, y, b, c, pt)] := if_neg w
      have eq1 : doQ fs (wk p K1 M) (4, y, b, c, pt) = push (wk p K1 M) [(0, root p y, 0, 0, .nil), (4, y, b, c, pt)] := (if_neg w).trans (if_pos (by
        show 2 ≤ tK (aF p (root p y))
        rw [pF, rp]
        exact un))
      rw [ea, eq1]
      refine SAME.pu (X := p) A1 rfl rfl (fun _ _ => rfl) ?_
      have hrr := r0 y hy.1
      rw [er_eq pC pF, er_eq pC pF, rp]
      show nz a (0, root a y, 0, 0, .nil) ++ (nz a (4, y, b, c, pt) ++ []) = nz a (0, y, 0, 0, .nil) ++ (nz a (5, y, b, c, pt) ++ [])
      rw [(nz0 (s := a) (y := root a y)).2 (by rw [hrr]; exact un), (nz0 (s := a) (y := y)).2 un, hrr]
      rfl
  | 5, _, _, q1, q2, done, hd =>
    have hfo := hWf y q2.2.2.2.2.2
    have hc := q1 b (List.mem_cons_of_mem _ (List.mem_cons_self ..))
    have h10 : 10 ≤ tcode pt := q2.2.2.2.2.1
    have hea : nz a (5, y, b, c, pt) = [(4, y, b, c, pt)] := rfl
    have e1 := hd _ hea
    rw [e1] at i1 i3
    have i1 : 4 = kq := i1
    subst i1
    have i3 : (4, y, b, c, pt) = (4, yq, bq, cq, tr) := i3 rfl
    rw [← i3]
    rw [← i3] at done
    refine done M _ hea (fun A1 => ?_)
    have eq1 : doQ fs (wk p K1 M) (4, y, b, c, pt) = metA fs (wk p K1 M) pt (root p y) b := (if_neg (show ¬ tcode pt < 10 by omega)).trans (if_neg (by
      show ¬ 2 ≤ tK (aF p (root p y))
      rw [pF, rp]
      omega))
    rw [eq1]
    show SAME p K1 M (metA fs (wk p K1 M) pt (root p y) b) (metA fs p pt (root p y) b)
    refine SAME.met A1 ?_
    rw [pF, pL]
    exact hc.2
  | 6, _, _, q1, q2, done, hd =>
    have hy := q1 y (List.mem_cons_self ..)
    have hea : nz a (6, y, b, c, pt) = [(6, y, 0, 0, .nil)] := rfl
    have e1 := hd _ hea
    rw [e1] at i1 i4
    have i1 : 6 = kq := i1
    subst i1
    have i4 : y = yq := i4 (Nat.le_refl _) (show (6 : Nat) ≤ 9 by decide)
    subst i4
    refine done M _ hea (fun A1 => ?_)
    obtain ⟨z, e1, e2, e3, e4, e5, e6, e7, e8, e9, e10⟩ := end_T hf.1 gp jp (show y < aC p by rw [pC]; exact hy.1) (by rw [pF]; exact q2.1) (by rw [pF]; exact q2.2)
    exact SAME.endc A1 e1 (root_lk e5.lk (Nat.lt_of_lt_of_le (by rw [pC]; exact hy.1) e6.1) (by rw [e10]) (by rw [e10]))
  | 7, _, _, q1, _, done, hd =>
    have hea : nz a (7, y, b, c, pt) = [(7, y, 0, 0, .nil)] := rfl
    have e1 := hd _ hea
    rw [e1] at i1 i4
    have i1 : 7 = kq := i1
    subst i1
    have i4 : y = yq := i4 (show 6 ≤ (7 : Nat) by decide) (show (7 : Nat) ≤ 9 by decide)
    subst i4
    exact done M _ hea (fun A1 => SAME.keep (X := data p y 1 none none) A1 rfl (fun _ => ⟨Nat.le_refl _, fun _ _ => rfl⟩))
  | 8, _, _, q1, _, done, hd =>
    have hy := q1 y (List.mem_cons_self ..)
    have hea : nz a (8, y, b, c, pt) = [(8, y, 0, 0, .nil)] := rfl
    have e1 := hd _ hea
    rw [e1] at i1 i4
    have i1 : 8 = kq := i1
    subst i1
    have i4 : y = yq := i4 (show 6 ≤ (8 : Nat) by decide) (show (8 : Nat) ≤ 9 by decide)
    subst i4
    refine done M _ hea (fun A1 => ?_)
    exact SAME.fail (X := p) A1 rfl rfl (fun _ _ => rfl) (by show tW (aF p y) ≤ aL p; rw [pF, pL]; exact hy.2)
  | 9, _, _, q1, q2, done, hd =>
    have hea : nz a (9, y, b, c, pt) = [(9, y, 0, 0, .nil)] := rfl
    have e1 := hd _ hea
    rw [e1] at i1 i4
    have i1 : 9 = kq := i1
    subst i1
    have i4 : y = yq := i4 (show 6 ≤ (9 : Nat) by decide) (show (9 : Nat) ≤ 9 by decide)
    subst i4
    refine done M _ hea (fun A1 => ?_)
    exact SAME.keep (X := sL (data p y 1 none none) (aL p - 1) (aV p)) A1 rfl (fun _ => ⟨by show aL p - 1 ≤ aL p; omega, fun _ _ => rfl⟩)
  | 10, _, _, q1, _, done, hd =>
    have hu := q1 c (List.mem_cons_of_mem _ (List.mem_cons_of_mem _ (List.mem_cons_self ..)))
    have hea : nz a (10, y, b, c, pt) = [(10, y, b, c, .nil)] := rfl
    have e1 := hd _ hea
    rw [e1] at i1 i5
    have i1 : 10 = kq := i1
    subst i1
    obtain ⟨j1, j2, j3⟩ := i5 (Or.inl rfl)
    have j1 : y = yq := j1
    have j2 : b = bq := j2
    have j3 : c = cq := j3
    subst j1
    subst j2
    subst j3
    refine done M _ hea (fun A1 => ?_)
    exact SAME.unite A1 (by rw [pF, pL]; exact hu.2)
  | 11, _, _, q1, q2, done, hd =>
    have hea : nz a (11, y, b, c, pt) = [(11, y, b, c, .nil)] := rfl
    have e1 := hd _ hea
    rw [e1] at i1 i5
    have i1 : 11 = kq := i1
    subst i1
    obtain ⟨j1, j2, j3⟩ := i5 (Or.inr rfl)
    have j1 : y = yq := j1
    have j2 : b = bq := j2
    have j3 : c = cq := j3
    subst j1
    subst j2
    subst j3
    refine done M _ hea (fun A1 => ?_)
    refine SAME.ask (u := c) (v := c) A1 ?_ ?_
    · rw [hK1, pL, up1_at]
      exact hKOq.2.2.2
    · rw [hp, topK_setK]
      exact q2.2.2
  | 12, _, _, _, _, done, hd =>
    have hea : nz a (12, y, b, c, pt) = [tRun] := rfl
    have e1 := hd _ hea
    rw [e1] at i1
    have i1 : 12 = kq := i1
    subst i1
    exact done M _ hea (fun A1 => SAME.run A1)
  | 13, _, na, _, _, _, _ => exact absurd (Or.inr (Or.inr (Or.inr (Or.inl rfl)))) na
  | 14, _, na, _, _, _, _ => exact absurd (Or.inr (Or.inr (Or.inr (Or.inr rfl)))) na
