/-! A RUN WITHIN IS MADE AGAIN: what turns do to levels -/
theorem liv_t {s : Ac} {t : Tk} {l : List Tk} (ht : topK s = t :: l) (h12 : t.1 ≠ 12) : liv s (aL s) := fun q => by
  have e : lK (aV s (aL s)) = t :: l := ht
  rw [e] at q
  exact h12 (Option.some.inj q)
theorem liv_e {s S : Ac} {j k : Nat} (e : lK (aV S k) = lK (aV s j)) : liv S k ↔ liv s j := by
  unfold liv
  rw [e]
theorem JR.lw {fs : List Fn} {s : Ac} {rk : Nat → Nat} (J : JR fs s rk) {j : Nat} (h : j < aL s) : liv s j := fun q => by
  cases e : lK (aV s j) with
  | nil =>
    rw [e] at q
    cases q
  | cons t l =>
    rw [e] at q
    have q : t.1 = 12 := Option.some.inj q
    have k := (J.2.2.2.1 j (by omega) [] t l e).2
    obtain ⟨kk, a, b, c, d⟩ := t
    have q : kk = 12 := q
    subst q
    have : j = aL s := k.2.2.2.1
    omega
/-- a failure, in both its ways -/
theorem fail_f {Q : Ac} {o : Nat} (h1 : 1 ≤ o) (h0 : aE (failA Q o) = 0) : (backA (lD (aV Q o)) = [] ∧ aL (failA Q o) = o - 1 ∧ ∀ k, aV (failA Q o) k = aV Q k) ∨ ∃ w n r, backA (lD (aV Q o)) = (w, n) :: r ∧ aL (failA Q o) = o ∧ aV (failA Q o) o = (lX (aV Q o), lU (aV Q o), [], (r.map (fun d => d.1)).reverse ++ [w + 1], [tRun], lZ (aV Q o)) ∧ (∀ k, k ≠ o → aV (failA Q o) k = aV Q k) ∧ aC (failA Q o) = aC Q ∧ aF (failA Q o) = aF Q ∧ aN (failA Q o) = aN Q := by
  unfold failA at h0 ⊢
  rw [if_neg (show ¬ o = 0 by omega)] at h0 ⊢
  cases hb : backA (lD (aV Q o)) with
  | nil => exact Or.inl ⟨rfl, rfl, fun _ => rfl⟩
  | cons d r =>
    obtain ⟨w, n⟩ := d
    rw [hb] at h0
    have h0 : aE (if lU (aV Q o) = 20 then sE Q 4 else sL Q o (up1 (aV Q) o (lX (aV Q o), lU (aV Q o), [], (r.map (fun d => d.1)).reverse ++ [w + 1], [tRun], lZ (aV Q o)))) = 0 := h0
    refine Or.inr ⟨w, n, r, rfl, ?_⟩
    show aL (if lU (aV Q o) = 20 then sE Q 4 else sL Q o (up1 (aV Q) o (lX (aV Q o), lU (aV Q o), [], (r.map (fun d => d.1)).reverse ++ [w + 1], [tRun], lZ (aV Q o)))) = o ∧ aV (if lU (aV Q o) = 20 then sE Q 4 else sL Q o (up1 (aV Q) o (lX (aV Q o), lU (aV Q o), [], (r.map (fun d => d.1)).reverse ++ [w + 1], [tRun], lZ (aV Q o)))) o = _ ∧ (∀ k, k ≠ o → aV (if lU (aV Q o) = 20 then sE Q 4 else sL Q o (up1 (aV Q) o (lX (aV Q o), lU (aV Q o), [], (r.map (fun d => d.1)).reverse ++ [w + 1], [tRun], lZ (aV Q o)))) k = aV Q k) ∧ aC (if lU (aV Q o) = 20 then sE Q 4 else sL Q o (up1 (aV Q) o (lX (aV Q o), lU (aV Q o), [], (r.map (fun d => d.1)).reverse ++ [w + 1], [tRun], lZ (aV Q o)))) = aC Q ∧ aF (if lU (aV Q o) = 20 then sE Q 4 else sL Q o (up1 (aV Q) o (lX (aV Q o), lU (aV Q o), [], (r.map (fun d => d.1)).reverse ++ [w + 1], [tRun], lZ (aV Q o)))) = aF Q ∧ aN (if lU (aV Q o) = 20 then sE Q 4 else sL Q o (up1 (aV Q) o (lX (aV Q o), lU (aV Q o), [], (r.map (fun d => d.1)).reverse ++ [w + 1], [tRun], lZ (aV Q o)))) = aN Q
    by_cases h20 : lU (aV Q o) = 20
    · rw [if_pos h20] at h0
      exact absurd h0 (show ¬ (4 : Nat) = 0 by decide)
    · rw [if_neg h20]
      exact ⟨rfl, up1_at, fun k hk => up1_ne hk, rfl, rfl, rfl⟩
theorem run_f {s : Ac} {l : List Tk} (hE : aE s = 0) (h0 : aE (runA (setK s l)) = 0) : ∃ new, lvs s (runA (setK s l)) l new ∧ (∀ b, b ∈ new → b.1 ≠ 12) ∧ new ≠ [] ∧ (∀ k, k ≠ aL s → aV (runA (setK s l)) k = aV s k) ∧ lD (aV (runA (setK s l)) (aL s)) = [] ∧ lG (aV (runA (setK s l)) (aL s)) = lG (aV s (aL s)) ∧ lU (aV (runA (setK s l)) (aL s)) = lU (aV s (aL s)) + 1 := by
  have hS : ¬ aS (setK s l) = 100 := fun e => by
    rw [runA_no e] at h0
    exact absurd h0 (show ¬ (4 : Nat) = 0 by decide)
  have gp := runA_go (s := setK s l) hS hE rfl
  obtain ⟨S, hSS⟩ : ∃ S, S = runA (setK s l) := ⟨_, rfl⟩
  rw [← hSS] at gp ⊢
  rw [push_push] at gp
  obtain ⟨X, hX⟩ : ∃ X, X = mkA (aN (setK s l) (tP (aF (setK s l) (lX (aV (setK s l) (aL (setK s l))))))) (aL (setK s l)) (tP (aF (setK s l) (lX (aV (setK s l) (aL (setK s l)))))) (tT (aF (setK s l) (lX (aV (setK s l) (aL (setK s l)))))) (aC (setK s l)) := ⟨_, rfl⟩
  rw [← hX] at gp
  have lv : lvs s S l (oT 1 X.1 ++ [(9, lX (aV (setK s l) (aL (setK s l))), 0, 0, .nil)]) := by
    rw [gp]
    obtain ⟨v1, v2, v3, v4⟩ := lvs_set (s := s) (l := l)
    refine lvs.pu (q := sL (addT (sS (setK s l) (aS (setK s l) + 1)) X.2) (aL (setK s l)) (up1 (aV (setK s l)) (aL (setK s l)) (lX (aV (setK s l) (aL (setK s l))), lU (aV (setK s l) (aL (setK s l))) + 1, [], lG (aV (setK s l) (aL (setK s l))), lK (aV (setK s l) (aL (setK s l))), aR (setK s l) + 1))) ?_
    have eu : ∀ i, lX (up1 (aV (setK s l)) (aL (setK s l)) (lX (aV (setK s l) (aL (setK s l))), lU (aV (setK s l) (aL (setK s l))) + 1, [], lG (aV (setK s l) (aL (setK s l))), lK (aV (setK s l) (aL (setK s l))), aR (setK s l) + 1) i) = lX (aV (setK s l) i) ∧ lK (up1 (aV (setK s l)) (aL (setK s l)) (lX (aV (setK s l) (aL (setK s l))), lU (aV (setK s l) (aL (setK s l))) + 1, [], lG (aV (setK s l) (aL (setK s l))), lK (aV (setK s l) (aL (setK s l))), aR (setK s l) + 1) i) = lK (aV (setK s l) i) := fun i => by
      rcases up1_or (f := aV (setK s l)) (x := aL (setK s l)) (y := i) (v := (lX (aV (setK s l) (aL (setK s l))), lU (aV (setK s l) (aL (setK s l))) + 1, [], lG (aV (setK s l) (aL (setK s l))), lK (aV (setK s l) (aL (setK s l))), aR (setK s l) + 1)) with ⟨f1, f2⟩ | ⟨_, f2⟩
      · rw [f2, f1]
        exact ⟨rfl, rfl⟩
      · rw [f2]
        exact ⟨rfl, rfl⟩
    exact ⟨rfl, fun i => (eu i).1.trans (v2 i), fun i hi => (eu i).2.trans (v3 i hi), (eu (aL s)).2.trans v4⟩
  refine ⟨_, lv, fun b hb => ?_, by simp, fun k hk => ?_, ?_⟩
  · rcases List.mem_append.mp hb with q | q
    · rw [oT_k q]
      decide
    · rw [List.mem_singleton.mp q]
      exact (show (9 : Nat) ≠ 12 by decide)
  · rw [gp]
    show up1 (up1 (up1 (aV s) (aL s) _) (aL s) _) (aL s) _ k = _
    rw [up1_ne hk, up1_ne hk, up1_ne hk]
  · rw [gp]
    have e : aV (sR (push (sL (addT (sS (setK s l) (aS (setK s l) + 1)) X.2) (aL (setK s l)) (up1 (aV (setK s l)) (aL (setK s l)) (lX (aV (setK s l) (aL (setK s l))), lU (aV (setK s l) (aL (setK s l))) + 1, [], lG (aV (setK s l) (aL (setK s l))), lK (aV (setK s l) (aL (setK s l))), aR (setK s l) + 1))) (oT 1 X.1 ++ [(9, lX (aV (setK s l) (aL (setK s l))), 0, 0, .nil)])) (aR (setK s l) + 1)) (aL s) = pTk (up1 (aV (setK s l)) (aL s) (lX (aV (setK s l) (aL s)), lU (aV (setK s l) (aL s)) + 1, [], lG (aV (setK s l) (aL s)), lK (aV (setK s l) (aL s)), aR (setK s l) + 1) (aL s)) _ := up1_at
    have e2 : aV (setK s l) (aL s) = pTk (aV s (aL s)) l := up1_at
    rw [e, up1_at, e2]
    exact ⟨rfl, rfl, rfl⟩
/-- an attempt goes on, or begins -/
theorem TS1 {fs : List Fn} {s : Ac} {rk : Nat → Nat} (J : JR fs s rk) (hE : aE s = 0) (h : TSx s (goX (doA fs) s)) (h0 : aE (goX (doA fs) s) = 0) {j : Nat} (hj : 1 ≤ j) (hS : j ≤ aL (goX (doA fs) s)) (hl : liv (goX (doA fs) s) j) : (j ≤ aL s ∧ liv s j ∧ DSx s (goX (doA fs) s) j ∧ lX (aV (goX (doA fs) s) j) = lX (aV s j)) ∨ (aL s = j ∧ ¬ liv s j ∧ lX (aV (goX (doA fs) s) j) = lX (aV s j) ∧ lD (aV (goX (doA fs) s) j) = [] ∧ lG (aV (goX (doA fs) s) j) = lG (aV s j) ∧ ∃ t l, topK s = t :: l ∧ t.1 = 12 ∧ goX (doA fs) s = runA (setK s l)) := by
  obtain ⟨S, hSS⟩ : ∃ S, S = goX (doA fs) s := ⟨_, rfl⟩
  rw [← hSS] at h h0 hS hl ⊢
  have same : ∀ {k : Nat}, aV S k = aV s k → DSx s S k ∧ lX (aV S k) = lX (aV s k) := fun {k} e => by
    unfold DSx
    rw [e]
    exact ⟨⟨rfl, Or.inl ⟨rfl, rfl⟩⟩, rfl⟩
  rcases h with ⟨t, m, r, new, ht, h12, lv, hn, hd⟩ | ⟨t, Q, l, o, ht, h12, sq, o1, o2, e⟩ | ⟨t, x, l, ht, h12, e⟩ | ⟨t, y, l, ht, h12, h1, e⟩ | ⟨t, l, ht, h12, e⟩
  · obtain ⟨v1, v2, v3, v4⟩ := lv
    rw [v1] at hS
    refine Or.inl ⟨hS, ?_, hd j, v2 j⟩
    by_cases w : j = aL s
    · rw [w]
      exact liv_t ht h12
    · exact J.lw (by omega)
  · obtain ⟨⟨v1, v2, v3, v4⟩, kk, _⟩ := sq
    have hlv : j ≤ aL s → liv s j := fun hk => by
      by_cases w : j = aL s
      · rw [w]
        exact liv_t ht h12
      · exact J.lw (by omega)
    have dq : DSx s Q j := kk.ds j
    rcases fail_f o1 (by rw [← e]; exact h0) with ⟨_, f2, f3⟩ | ⟨w, n, r, _, f2, f3, f4, _⟩
    · rw [← e] at f2 f3
      refine Or.inl ⟨by omega, hlv (by omega), ?_, by rw [f3]; exact v2 j⟩
      unfold DSx at dq ⊢
      rw [f3]
      exact dq
    · rw [← e] at f2 f3 f4
      by_cases w2 : j = o
      · exfalso
        refine hl ?_
        rw [w2, f3]
        rfl
      · refine Or.inl ⟨by omega, hlv (by omega), ?_, by rw [f4 j w2]; exact v2 j⟩
        unfold DSx at dq ⊢
        rw [f4 j w2]
        exact dq
  · have a1 : aL S = aL s + 1 := by rw [e]; rfl
    by_cases w : j = aL s + 1
    · exfalso
      refine hl ?_
      rw [w, e]
      show (lK (up1 (aV (setK s l)) (aL s + 1) _ (aL s + 1))).head?.map (fun t => t.1) = some 12
      rw [up1_at]
      rfl
    · have e2 : aV S j = aV (setK s l) j := by rw [e]; exact up1_ne w
      refine Or.inl ⟨by omega, ?_, ?_, by rw [e2]; exact (lvs_set (s := s) (l := l)).2.1 j⟩
      · by_cases w2 : j = aL s
        · rw [w2]
          exact liv_t ht h12
        · exact J.lw (by omega)
      · have := (kg_setK (s := s) (l := l)).ds j
        unfold DSx at this ⊢
        rw [e2]
        exact this
  · have a1 : aL S = aL s - 1 := by rw [e]; rfl
    have e2 : aV S j = aV s j := by
      rw [e]
      exact up1_ne (by omega)
    exact Or.inl ⟨by omega, J.lw (by omega), (same e2).1, (same e2).2⟩
  · obtain ⟨new, lv, hn, hne, f1, f2, f3, f4⟩ := run_f hE (by rw [← e]; exact h0)
    rw [← e] at lv f1 f2 f3
    have a1 := lv.1
    by_cases w : j = aL s
    · refine Or.inr ⟨w.symm, fun q => q ?_, lv.2.1 j, by rw [w]; exact f2, by rw [w]; exact f3, t, l, ht, h12, e⟩
      have e3 : lK (aV s j) = t :: l := by rw [w]; exact ht
      rw [e3]
      show some t.1 = some 12
      rw [h12]
    · have e2 := f1 j w
      exact Or.inl ⟨by omega, J.lw (by omega), (same e2).1, (same e2).2⟩
/-- what is to be begun -/
theorem TS2 {fs : List Fn} {s : Ac} {rk rk' : Nat → Nat} (J : JR fs s rk) (J' : JR fs (goX (doA fs) s) rk') (hE : aE s = 0) (h : TSx s (goX (doA fs) s)) (h0 : aE (goX (doA fs) s) = 0) {j : Nat} (hj : 1 ≤ j) (hS : j = aL (goX (doA fs) s)) (hl : ¬ liv (goX (doA fs) s) j) : lG (aV (goX (doA fs) s) j) = [] ∨ ∃ t l Q w n r, topK s = t :: l ∧ t.1 ≠ 12 ∧ stp s Q l ∧ j ≤ aL s ∧ liv s j ∧ goX (doA fs) s = failA Q j ∧ backA (lD (aV s j)) = (w, n) :: r ∧ lG (aV (goX (doA fs) s) j) = (r.map (fun d => d.1)).reverse ++ [w + 1] ∧ lX (aV (goX (doA fs) s) j) = lX (aV s j) ∧ aC (goX (doA fs) s) = aC s ∧ aF (goX (doA fs) s) = aF s ∧ aN (goX (doA fs) s) = aN s := by
  obtain ⟨S, hSS⟩ : ∃ S, S = goX (doA fs) s := ⟨_, rfl⟩
  rw [← hSS] at h h0 hS hl J' ⊢
  have npd : pdn S := by
    have : ¬ liv S (aL S) := by rw [← hS]; exact hl
    unfold liv at this
    exact Classical.byContradiction fun q => this q
  rcases h with ⟨t, m, r, new, ht, h12, lv, hn, hd⟩ | ⟨t, Q, l, o, ht, h12, sq, o1, o2, e⟩ | ⟨t, x, l, ht, h12, e⟩ | ⟨t, y, l, ht, h12, h1, e⟩ | ⟨t, l, ht, h12, e⟩
  · exact absurd npd (J.np ht rfl lv hn)
  · obtain ⟨⟨v1, v2, v3, v4⟩, kk, p1, p2, p3⟩ := id sq
    rcases fail_f o1 (by rw [← e]; exact h0) with ⟨_, f2, f3⟩ | ⟨w, n, r, f1, f2, f3, f4, f5, f6, f7⟩
    · rw [← e] at f2 f3
      exfalso
      refine hl ?_
      have : lK (aV S j) = lK (aV s j) := by rw [f3]; exact v3 j (by omega)
      exact (liv_e this).mpr (J.lw (by omega))
    · rw [← e] at f2 f3 f4 f5 f6 f7
      have ej : j = o := by omega
      subst ej
      refine Or.inr ⟨t, l, Q, w, n, r, ht, h12, sq, o2, ?_, e, ?_, by rw [f3], by rw [f3]; exact v2 j, f5.trans p1, f6.trans p2, f7.trans p3⟩
      · by_cases w2 : j = aL s
        · rw [w2]
          exact liv_t ht h12
        · exact J.lw (by omega)
      · rw [← (kk.2 j).2.1]
        exact f1
  · have a1 : aL S = aL s + 1 := by rw [e]; rfl
    refine Or.inl ?_
    rw [hS, a1, e]
    show lG (up1 (aV (setK s l)) (aL s + 1) _ (aL s + 1)) = []
    rw [up1_at]
  · have a1 : aL S = aL s - 1 := by rw [e]; rfl
    exfalso
    refine hl ?_
    have : lK (aV S j) = lK (aV s j) := by
      rw [e]
      show lK (up1 (aV s) (aL s) _ j) = _
      rw [up1_ne (by omega)]
    exact (liv_e this).mpr (J.lw (by omega))
  · obtain ⟨new, lv, hn, hne, _⟩ := run_f hE (by rw [← e]; exact h0)
    rw [← e] at lv
    exfalso
    unfold pdn at npd
    rw [lv.2.2.2] at npd
    cases new with
    | nil => exact hne rfl
    | cons b new => exact hn b (List.mem_cons_self ..) (Option.some.inj npd)
