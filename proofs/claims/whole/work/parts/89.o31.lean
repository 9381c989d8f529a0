/-! A RUN WITHIN IS MADE AGAIN: attempts in a run -/
def Seg (fs : List Fn) (R : Nat → Ac) (N : Nat) : Prop := (∀ i, R (i + 1) = goX (doA fs) (R i)) ∧ (∀ i, i ≤ N → aE (R i) = 0 ∧ AA fs (R i)) ∧ ∀ i, i < N → WR2 fs (R i)
theorem Seg.jr {fs : List Fn} {R : Nat → Ac} {N i : Nat} (h : Seg fs R N) (hi : i ≤ N) : ∃ rk, JR fs (R i) rk := by
  obtain ⟨⟨⟨rk, J⟩, _⟩, _⟩ := (h.2.1 i hi).2
  exact ⟨rk, J⟩
theorem Seg.ev1 {fs : List Fn} {R : Nat → Ac} {N i : Nat} (hf : PW fs [] none) (h : Seg fs R N) (hi : i < N) : Ev (R i) (R (i + 1)) := by
  obtain ⟨e, a⟩ := h.2.1 i (by omega)
  obtain ⟨e', _⟩ := h.2.1 (i + 1) (by omega)
  rw [h.1] at e' ⊢
  exact (a.go hf e (h.2.2 i hi) e').2
theorem Seg.ev {fs : List Fn} {R : Nat → Ac} {N : Nat} (hf : PW fs [] none) (h : Seg fs R N) : ∀ (d i : Nat), i + d ≤ N → Ev (R i) (R (i + d)) := by
  intro d
  induction d with
  | zero => exact fun i _ => Ev.same (Nat.le_refl _) (fun _ _ => rfl)
  | succ d ih =>
    intro i hi
    obtain ⟨r1, J1⟩ := h.jr (i := i + d) (by omega)
    obtain ⟨r2, J2⟩ := h.jr (i := i + d + 1) (by omega)
    exact (ih i (by omega)).trans (h.ev1 hf (i := i + d) (by omega)) J1.1 J2.1
theorem Seg.evk {fs : List Fn} {R : Nat → Ac} {N i k : Nat} (hf : PW fs [] none) (h : Seg fs R N) (hik : i ≤ k) (hk : k ≤ N) : Ev (R i) (R k) := by
  obtain ⟨d, rfl⟩ := Nat.le.dest hik
  exact h.ev hf d i hk
theorem Seg.ts {fs : List Fn} {R : Nat → Ac} {N i : Nat} (hf : PW fs [] none) (h : Seg fs R N) (hi : i < N) : TSx (R i) (R (i + 1)) := by
  obtain ⟨rk, J⟩ := h.jr (i := i) (by omega)
  have e' := (h.2.1 (i + 1) (by omega)).1
  rw [h.1] at e' ⊢
  exact TS J hf.1 (h.2.1 i (by omega)).1 e'
def Att (R : Nat → Ac) (j b N : Nat) : Prop := aL (R b) = j ∧ ¬ liv (R b) j ∧ b < N ∧ ∀ i, b < i → i ≤ N → j ≤ aL (R i) ∧ liv (R i) j
theorem Seg.t1 {fs : List Fn} {R : Nat → Ac} {N i j : Nat} (hf : PW fs [] none) (h : Seg fs R N) (hi : i < N) (hj : 1 ≤ j) (hS : j ≤ aL (R (i + 1))) (hl : liv (R (i + 1)) j) : (j ≤ aL (R i) ∧ liv (R i) j ∧ DSx (R i) (R (i + 1)) j ∧ lX (aV (R (i + 1)) j) = lX (aV (R i) j)) ∨ (aL (R i) = j ∧ ¬ liv (R i) j ∧ lX (aV (R (i + 1)) j) = lX (aV (R i) j) ∧ lD (aV (R (i + 1)) j) = [] ∧ lG (aV (R (i + 1)) j) = lG (aV (R i) j) ∧ ∃ t l, topK (R i) = t :: l ∧ t.1 = 12 ∧ R (i + 1) = runA (setK (R i) l)) := by
  obtain ⟨rk, J⟩ := h.jr (i := i) (by omega)
  have e' := (h.2.1 (i + 1) (by omega)).1
  have ts := h.ts hf hi
  rw [h.1] at e' ts hS hl ⊢
  exact TS1 J (h.2.1 i (by omega)).1 ts e' hj hS hl
theorem Seg.att {fs : List Fn} {R : Nat → Ac} {N j : Nat} (hf : PW fs [] none) (h : Seg fs R N) (h0 : aL (R 0) = 0) (hj : 1 ≤ j) : ∀ k, k ≤ N → j ≤ aL (R k) → liv (R k) j → ∃ b, Att R j b k := by
  intro k
  induction k with
  | zero =>
    intro _ h1 _
    omega
  | succ k ih =>
    intro hk h1 h2
    rcases h.t1 hf (i := k) (by omega) hj h1 h2 with ⟨a1, a2, _⟩ | ⟨a1, a2, _⟩
    · obtain ⟨b, b1, b2, b3, b4⟩ := ih (by omega) a1 a2
      refine ⟨b, b1, b2, by omega, fun i i1 i2 => ?_⟩
      by_cases e : i = k + 1
      · rw [e]
        exact ⟨h1, h2⟩
      · exact b4 i i1 (by omega)
    · refine ⟨k, a1, a2, by omega, fun i i1 i2 => ?_⟩
      have e : i = k + 1 := by omega
      rw [e]
      exact ⟨h1, h2⟩
/-- decisions and ways within an attempt -/
theorem Seg.ld {fs : List Fn} {R : Nat → Ac} {N j b k : Nat} (hf : PW fs [] none) (h : Seg fs R N) (hj : 1 ≤ j) (hk : k ≤ N) (ha : Att R j b k) : ∀ i, b < i → i ≤ k → lX (aV (R i) j) = lX (aV (R b) j) ∧ lG (aV (R i) j) = (lG (aV (R b) j)).drop (lD (aV (R i) j)).length := by
  obtain ⟨a1, a2, a3, a4⟩ := ha
  intro i
  induction i with
  | zero => intro h1; omega
  | succ i ih =>
    intro h1 h2
    obtain ⟨l1, l2⟩ := a4 (i + 1) h1 h2
    rcases h.t1 hf (i := i) (by omega) hj l1 l2 with ⟨b1, b2, b3, b4⟩ | ⟨b1, b2, b3, b4, b5, _⟩
    · have hbi : b < i := by
        by_cases e : i = b
        · rw [e] at b2
          exact absurd b2 a2
        · omega
      obtain ⟨c1, c2⟩ := ih hbi (by omega)
      refine ⟨b4.trans c1, ?_⟩
      obtain ⟨_, d2⟩ := b3
      rcases d2 with ⟨d3, d4⟩ | ⟨n, d3, d4⟩
      · rw [d3, d4]
        exact c2
      · rw [d3, d4, c2, List.length_cons, List.tail_drop]
    · have e : i = b := by
        by_cases e : i = b
        · exact e
        · exact absurd (a4 i (by omega) (by omega)).2 b2
      rw [e] at b3 b4 b5 ⊢
      refine ⟨b3, ?_⟩
      rw [b4, b5]
      rfl
theorem Seg.suf {fs : List Fn} {R : Nat → Ac} {N j b k : Nat} (hf : PW fs [] none) (h : Seg fs R N) (hj : 1 ≤ j) (hk : k ≤ N) (ha : Att R j b k) : ∀ (d i : Nat), b < i → i + d ≤ k → ∃ pre, lD (aV (R (i + d)) j) = pre ++ lD (aV (R i) j) := by
  obtain ⟨a1, a2, a3, a4⟩ := ha
  intro d
  induction d with
  | zero => exact fun i _ _ => ⟨[], rfl⟩
  | succ d ih =>
    intro i h1 h2
    obtain ⟨pre, hp⟩ := ih i h1 (by omega)
    obtain ⟨l1, l2⟩ := a4 (i + d + 1) (by omega) (by omega)
    rcases h.t1 hf (i := i + d) (by omega) hj l1 l2 with ⟨b1, b2, b3, b4⟩ | ⟨b1, b2, _⟩
    · rcases b3.2 with ⟨d3, _⟩ | ⟨n, d3, _⟩
      · exact ⟨pre, d3.trans hp⟩
      · refine ⟨((lG (aV (R (i + d)) j)).headD 0, n) :: pre, ?_⟩
        show lD (aV (R (i + d + 1)) j) = _
        rw [d3, hp]
        rfl
    · exact absurd (a4 (i + d) (by omega) (by omega)).2 b2
/-- what is sought by an attempt stays as it is -/
theorem Seg.k6 {fs : List Fn} {R : Nat → Ac} {N j b k : Nat} (hf : PW fs [] none) (h : Seg fs R N) (hj : 1 ≤ j) (hk : k ≤ N) (ha : Att R j b k) : ∀ i, b ≤ i → i ≤ k → aF (R i) (lX (aV (R b) j)) = aF (R b) (lX (aV (R b) j)) ∧ aN (R i) (tP (aF (R b) (lX (aV (R b) j)))) = aN (R b) (tP (aF (R b) (lX (aV (R b) j)))) := by
  have ld := h.ld hf hj hk ha
  obtain ⟨a1, a2, a3, a4⟩ := ha
  have x6 : ∀ i, b ≤ i → i ≤ k → lX (aV (R b) j) < aC (R i) ∧ tK (aF (R i) (lX (aV (R b) j))) = 6 := fun i i1 i2 => by
    obtain ⟨rk, J⟩ := h.jr (i := i) (by omega)
    by_cases e : i = b
    · subst e
      obtain ⟨q1, q2, _⟩ := J.2.2.2.2 j hj (by omega)
      exact ⟨q1, q2⟩
    · obtain ⟨q1, q2, _⟩ := J.2.2.2.2 j hj (a4 i (by omega) i2).1
      rw [(ld i (by omega) i2).1] at q1 q2
      exact ⟨q1, q2⟩
  intro i
  induction i with
  | zero =>
    intro h1 _
    have e : b = 0 := by omega
    subst e
    exact ⟨rfl, rfl⟩
  | succ i ih =>
    intro h1 h2
    by_cases e : i + 1 = b
    · rw [e]
      exact ⟨rfl, rfl⟩
    · obtain ⟨c1, c2⟩ := ih (by omega) (by omega)
      obtain ⟨rk, J⟩ := h.jr (i := i) (by omega)
      have e' := (h.2.1 (i + 1) (by omega)).1
      rw [h.1] at e'
      obtain ⟨x1, x2⟩ := x6 i (by omega) (by omega)
      obtain ⟨_, x3⟩ := x6 (i + 1) h1 h2
      rw [h.1] at x3 ⊢
      obtain ⟨k1, k2⟩ := K6.go J hf.1 (h.2.1 i (by omega)).1 e' _ x1 x2 x3
      rw [c1] at k2
      exact ⟨k1.trans c1, k2.trans c2⟩
/-- the decision that a force takes -/
theorem DECx {fs : List Fn} {s : Ac} {rk : Nat → Nat} {l : List Tk} {x n : Nat} (J : JR fs s rk) (xl : x < aC s) (hE : aE s = 0) (hk : (tK (aF s x) = 2 ∧ n = (rulf fs (tO (aF s x))).length ∧ 1 < n) ∨ (tK (aF s x) = 3 ∧ n = 2)) (h0 : aE (forceG fs false (setK s l) x) = 0) : lD (aV (forceG fs false (setK s l) x) (tW (aF s x))) = ((decA (setK s l) (tW (aF s x)) n).1, n) :: lD (aV s (tW (aF s x))) ∧ lG (aV (forceG fs false (setK s l) x) (tW (aF s x))) = (lG (aV s (tW (aF s x)))).tail ∧ (decA (setK s l) (tW (aF s x)) n).1 = (lG (aV s (tW (aF s x)))).headD 0 := by
  have hE' : aE (setK s l) = 0 := hE
  have base : ∀ o, aE (decA (setK s l) o n).2 = 0 → lD (aV (decA (setK s l) o n).2 o) = ((decA (setK s l) o n).1, n) :: lD (aV s o) ∧ lG (aV (decA (setK s l) o n).2 o) = (lG (aV s o)).tail ∧ (decA (setK s l) o n).1 = (lG (aV s o)).headD 0 := fun o g1 => by
    obtain ⟨e1, e2⟩ := decA_f g1 hE'
    obtain ⟨k1, k2, k3⟩ := (kg_setK (s := s) (l := l)).2 o
    have ev : aV (decA (setK s l) o n).2 o = (lX (aV (setK s l) o), lU (aV (setK s l) o), ((decA (setK s l) o n).1, n) :: lD (aV (setK s l) o), (lG (aV (setK s l) o)).tail, lK (aV (setK s l) o), lZ (aV (setK s l) o)) := by
      conv => lhs; rw [e1]
      exact up1_at
    rw [ev]
    refine ⟨?_, ?_, by rw [e2, k3]⟩
    · show _ :: lD (aV (setK s l) o) = _
      rw [k2]
    · show (lG (aV (setK s l) o)).tail = _
      rw [k3]
  rcases hk with ⟨k2, en, n1⟩ | ⟨k3, en⟩
  · have e : forceG fs false (setK s l) x = callA fs (setK s l) x := by
      unfold forceG
      rw [show tK (aF (setK s l) x) = 2 from k2]
      rfl
    rw [e] at h0 ⊢
    unfold callA at h0 ⊢
    have hn : ¬ (rulf fs (tO (aF (setK s l) x))).length = 0 := by
      show ¬ (rulf fs (tO (aF s x))).length = 0
      omega
    have h1 : 1 < (rulf fs (tO (aF (setK s l) x))).length := by
      show 1 < (rulf fs (tO (aF s x))).length
      omega
    rw [if_neg hn] at h0 ⊢
    simp only [] at h0 ⊢
    rw [if_pos h1] at h0 ⊢
    have ed : decA (setK s l) (tW (aF (setK s l) x)) (rulf fs (tO (aF (setK s l) x))).length = decA (setK s l) (tW (aF s x)) n := by rw [en]; rfl
    rw [ed] at h0 ⊢
    by_cases g1 : aE (decA (setK s l) (tW (aF s x)) n).2 = 0
    · rw [if_pos g1] at h0 ⊢
      by_cases g2 : aE (stepA (decA (setK s l) (tW (aF s x)) n).2) = 0
      · rw [if_pos g2] at h0 ⊢
        obtain ⟨b1, b2, b3⟩ := base _ g1
        obtain ⟨R, hR⟩ : ∃ R, R = (rulf fs (tO (aF (setK s l) x))).getD (decA (setK s l) (tW (aF s x)) n).1 (none, none, .nil) := ⟨_, rfl⟩
        rw [← hR]
        have kk := (kg_step (s := (decA (setK s l) (tW (aF s x)) n).2)).tr (kg_push (s := takeT (stepA (decA (setK s l) (tW (aF s x)) n).2) x R) (l := mt1 R.1 (tA (aF (stepA (decA (setK s l) (tW (aF s x)) n).2) x)) x ++ mt1 R.2.1 (tB (aF (stepA (decA (setK s l) (tW (aF s x)) n).2) x)) x ++ [(6, x, 0, 0, .nil)]))
        obtain ⟨z1, z2, z3⟩ := kk.2 (tW (aF s x))
        have eT : takeR (stepA (decA (setK s l) (tW (aF s x)) n).2) x R = push (takeT (stepA (decA (setK s l) (tW (aF s x)) n).2) x R) (mt1 R.1 (tA (aF (stepA (decA (setK s l) (tW (aF s x)) n).2) x)) x ++ mt1 R.2.1 (tB (aF (stepA (decA (setK s l) (tW (aF s x)) n).2) x)) x ++ [(6, x, 0, 0, .nil)]) := rfl
        rw [eT, z2, z3]
        exact ⟨b1, b2, b3⟩
      · rw [if_neg g2] at h0
        exact absurd h0 g2
    · rw [if_neg g1] at h0
      exact absurd h0 g1
  · subst en
    obtain ⟨iA, iB⟩ := (J.2.2.1.1 x xl).2.2.2.2.2.1 (by omega) (by omega)
    have ef : forceG fs false (setK s l) x = if aE (decA (setK s l) (tW (aF s x)) 2).2 = 0 then (match (if (decA (setK s l) (tW (aF s x)) 2).1 = 0 then tA (aF s x) else tB (aF s x)) with
      | some y => push (link (decA (setK s l) (tW (aF s x)) 2).2 x y) [(0, y, 0, 0, .nil)]
      | none => (decA (setK s l) (tW (aF s x)) 2).2) else (decA (setK s l) (tW (aF s x)) 2).2 := by
      unfold forceG
      rw [show tK (aF (setK s l) x) = 3 from k3]
      rfl
    rw [ef] at h0 ⊢
    by_cases g1 : aE (decA (setK s l) (tW (aF s x)) 2).2 = 0
    · rw [if_pos g1] at h0 ⊢
      obtain ⟨b1, b2, b3⟩ := base _ g1
      have io : (if (decA (setK s l) (tW (aF s x)) 2).1 = 0 then tA (aF s x) else tB (aF s x)).isSome = true := by
        split
        · exact iA
        · exact iB
      obtain ⟨z, hz⟩ := Option.isSome_iff_exists.mp io
      rw [hz]
      obtain ⟨z1, z2, z3⟩ := (kg_push (s := link (decA (setK s l) (tW (aF s x)) 2).2 x z) (l := [(0, z, 0, 0, .nil)])).2 (tW (aF s x))
      show lD (aV (push (link (decA (setK s l) (tW (aF s x)) 2).2 x z) [(0, z, 0, 0, .nil)]) (tW (aF s x))) = _ ∧ lG (aV (push (link (decA (setK s l) (tW (aF s x)) 2).2 x z) [(0, z, 0, 0, .nil)]) (tW (aF s x))) = _ ∧ _
      rw [z2, z3]
      exact ⟨b1, b2, b3⟩
    · rw [if_neg g1] at h0
      exact absurd h0 g1
/-- ways that are given again -/
theorem headG {D d r pre pre' : List (Nat × Nat)} {w n0 wi n : Nat} (h1 : D = pre' ++ (w, n0) :: r) (h2 : D = pre ++ (wi, n) :: d) (hw : w + 1 ≠ n0) (hlt : ∀ e, e ∈ D → e.1 < e.2) (hne : ((r.map (fun d => d.1)).reverse ++ [w + 1]).drop d.length ≠ []) : (((r.map (fun d => d.1)).reverse ++ [w + 1]).drop d.length).headD 0 < n ∧ (((r.map (fun d => d.1)).reverse ++ [w + 1]).drop (d.length + 1) ≠ [] → (((r.map (fun d => d.1)).reverse ++ [w + 1]).drop d.length).headD 0 = wi) := by
  have hlen : d.length ≤ r.length := by
    by_cases c : d.length ≤ r.length
    · exact c
    · exfalso
      refine hne (List.drop_eq_nil_of_le ?_)
      rw [List.length_append, List.length_reverse, List.length_map]
      show r.length + 1 ≤ d.length
      omega
  have e12 : pre' ++ (w, n0) :: r = pre ++ (wi, n) :: d := h1.symm.trans h2
  by_cases c : d.length = r.length
  · have h3 := List.append_inj' e12 (by rw [List.length_cons, List.length_cons, c])
    obtain ⟨h4, h5⟩ := List.cons.inj h3.2
    cases h4
    have ed : ((r.map (fun d => d.1)).reverse ++ [w + 1]).drop d.length = [w + 1] := by
      rw [c, List.drop_append_of_le_length (by rw [List.length_reverse, List.length_map]; exact Nat.le_refl _)]
      rw [List.drop_eq_nil_of_le (by rw [List.length_reverse, List.length_map]; exact Nat.le_refl _)]
      rfl
    have hl := hlt (w, n0) (by rw [h1]; exact List.mem_append_right _ (List.mem_cons_self ..))
    have hl : w < n0 := hl
    refine ⟨?_, fun q => absurd (List.drop_eq_nil_of_le ?_) q⟩
    · rw [ed]
      show w + 1 < n0
      omega
    · rw [List.length_append, List.length_reverse, List.length_map]
      show r.length + 1 ≤ d.length + 1
      omega
  · -- the decision is among r
    have hlt2 : d.length < r.length := by omega
    obtain ⟨q, hq⟩ : ∃ q, r = q ++ (wi, n) :: d := by
      have hpl : pre'.length + 1 ≤ pre.length := by
        have := congrArg List.length e12
        rw [List.length_append, List.length_append, List.length_cons, List.length_cons] at this
        omega
      obtain ⟨k, hk⟩ := Nat.le.dest hpl
      have e3 := congrArg (List.drop (pre'.length + 1)) e12
      refine ⟨pre.drop (pre'.length + 1), ?_⟩
      rw [List.drop_append_of_le_length hpl] at e3
      rw [← e3]
      have : pre' ++ (w, n0) :: r = (pre' ++ [(w, n0)]) ++ r := by simp
      rw [this, show pre'.length + 1 = (pre' ++ [(w, n0)]).length by simp, List.drop_left]
    have ed : ((r.map (fun d => d.1)).reverse ++ [w + 1]).drop d.length = wi :: ((q.map (fun d => d.1)).reverse ++ [w + 1]) := by
      rw [hq]
      have : ((q ++ (wi, n) :: d).map (fun d => d.1)).reverse ++ [w + 1] = (d.map (fun d => d.1)).reverse ++ (wi :: ((q.map (fun d => d.1)).reverse ++ [w + 1])) := by simp
      rw [this]
      have e4 : d.length = ((d.map (fun d => d.1)).reverse).length := by rw [List.length_reverse, List.length_map]
      conv => lhs; rw [e4]
      rw [List.drop_left]
    rw [ed]
    refine ⟨hlt (wi, n) (by rw [h2]; exact List.mem_append_right _ (List.mem_cons_self ..)), fun _ => rfl⟩
theorem backA_f : ∀ {D : List (Nat × Nat)} {w n0 : Nat} {r : List (Nat × Nat)}, backA D = (w, n0) :: r → (∃ pre', D = pre' ++ (w, n0) :: r) ∧ w + 1 ≠ n0
  | [], _, _, _, h => by cases h
  | (v, m) :: D, w, n0, r, h => by
    have h : (if v + 1 = m then backA D else (v, m) :: D) = (w, n0) :: r := h
    by_cases c : v + 1 = m
    · rw [if_pos c] at h
      obtain ⟨⟨pre', e⟩, h2⟩ := backA_f h
      exact ⟨⟨(v, m) :: pre', by rw [e]; rfl⟩, h2⟩
    · rw [if_neg c] at h
      cases h
      exact ⟨⟨[], rfl⟩, c⟩
