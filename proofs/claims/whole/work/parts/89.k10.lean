/-! HOW MUCH THERE IS: each turn -/
def NA (s : Ac) : Prop := NB s ∧ NLd s ∧ NLp s
def WR2 (fs : List Fn) (s : Ac) : Prop := ∀ t l, topK s = t :: l → t.1 = 0 → WRc fs (setK s l) (root s t.2.1) ∧ WRe (setK s l) (root s t.2.1)
def shN (s : Ac) (l : List Tk) (S : Ac) (o : Nat) : Prop := (∃ new, lvs s S l new ∧ ∀ t, t ∈ new → t.1 ≠ 12) ∨ (∃ q, lvs s q l [] ∧ S = failA q o) ∨ (∃ m e r, l = m ++ e :: r ∧ (∀ t, t ∈ m → t.1 = 11) ∧ e.1 = 8 ∧ lvs s S r [])
theorem shK.n {s S : Ac} {l : List Tk} {o : Nat} (h : shK s l S o) : shN s l S o := by
  rcases h with ⟨new, lv, nn⟩ | q | q
  · exact Or.inl ⟨new, lv, fun t ht => (nn t ht).2.2.2.2⟩
  · exact Or.inr (Or.inl q)
  · exact Or.inr (Or.inr q)
theorem n12_nil : ∀ t, t ∈ ([] : List Tk) → t.1 ≠ 12 := fun _ h => (List.not_mem_nil h).elim
theorem shN_force {fs : List Fn} {h : Bool} {s q : Ac} {l : List Tk} {x : Nat} (hl : lvs s q l []) (h6 : tK (aF q x) ≠ 6) : shN s l (forceG fs h q x) (tW (aF q x)) := by
  cases h with
  | true => exact (shp_force hl h6).n
  | false =>
    unfold forceG
    split
    · exact (shp_call hl).n
    · simp only []
      split
      · split
        · exact Or.inl ⟨_, lvs.pu (q := link _ _ _) hl.dec, fun t ht => by rw [List.mem_singleton.mp ht]; exact (show (0 : Nat) ≠ 12 by decide)⟩
        · exact Or.inl ⟨[], hl.dec, n12_nil⟩
      · exact Or.inl ⟨[], hl.dec, n12_nil⟩
    · refine Or.inl ⟨_, hl.pu, fun t ht => ?_⟩
      rcases List.mem_append.mp ht with ht | ht
      · have : t.1 = 1 := (List.mem_append.mp ht).elim oT_k oT_k
        omega
      · rw [List.mem_singleton.mp ht]
        exact (show (13 : Nat) ≠ 12 by decide)
    · refine Or.inl ⟨_, hl.pu, fun t ht => ?_⟩
      rcases List.mem_append.mp ht with ht | ht
      · have : t.1 = 1 := (List.mem_append.mp ht).elim oT_k oT_k
        omega
      · rw [List.mem_singleton.mp ht]
        exact (show (14 : Nat) ≠ 12 by decide)
    · exact absurd ‹_› h6
    · exact Or.inl ⟨[], hl, n12_nil⟩
theorem shN_end {h : Bool} {s q : Ac} {l : List Tk} {c : Nat} (hl : lvs s q l []) : shN s l (endG h q c) 0 := by
  unfold endG
  simp only []
  split
  · exact Or.inl ⟨_, lvs.pu (q := link (addT _ _) _ _) hl, fun t ht => by rw [List.mem_singleton.mp ht]; exact (show (0 : Nat) ≠ 12 by decide)⟩
  · exact Or.inl ⟨[], hl, n12_nil⟩
theorem NLp.of {fs : List Fn} {s S : Ac} {t : Tk} {l new : List Tk} {rk : Nat → Nat} (J : JR fs s rk) (ht : topK s = t :: l) (lv : lvs s S l new) (hn : ∀ b, b ∈ new → b.1 ≠ 12) : NLp S := fun h => by
  exfalso
  refine h (fun q => ?_)
  have q : (topK S).head?.map (fun t => t.1) = some 12 := q
  rw [lv.2.2.2] at q
  cases new with
  | cons b m =>
    have q : b.1 = 12 := by simpa using q
    exact hn b (List.mem_cons_self ..) q
  | nil =>
    cases l with
    | nil => cases q
    | cons b m =>
      have q : b.1 = 12 := by simpa using q
      exact J.2.2.2.1.n12 (l1 := [t]) (l2 := m) (Nat.le_refl (aL s)) (by show topK s = _; rw [ht]; rfl) (Or.inr (by simp)) q
theorem NLp.sh {fs : List Fn} {s S : Ac} {t : Tk} {l : List Tk} {rk : Nat → Nat} {o : Nat} (J : JR fs s rk) (ht : topK s = t :: l) (N : NLd S) (hs : shN s l S o) (ho : o ≤ aL s) (h0 : aE S = 0) : NLp S := by
  rcases hs with ⟨new, lv, nn⟩ | ⟨q, lv, e⟩ | ⟨m, e8, r, el, em, e1, lv⟩
  · exact NLp.of J ht lv nn
  · rw [e] at h0 N ⊢
    unfold failA at h0 N ⊢
    by_cases q0 : o = 0
    · rw [if_pos q0] at h0
      exact absurd h0 (show ¬ (2 : Nat) = 0 by decide)
    · rw [if_neg q0] at h0 N ⊢
      cases hb : backA (lD (aV q o)) with
      | nil =>
        intro hl
        exfalso
        refine hl ?_
        show (lK (aV q (o - 1))).head?.map (fun t => t.1) ≠ some 12
        rw [lv.2.2.1 (o - 1) (by omega)]
        exact J.2.2.2.1.lv (by omega) (Or.inl (by omega))
      | cons d r =>
        obtain ⟨w', n⟩ := d
        rw [hb] at h0 N
        have h0 : aE (if lU (aV q o) = 20 then sE q 4 else sL q o (up1 (aV q) o (lX (aV q o), lU (aV q o), [], (r.map (fun d => d.1)).reverse ++ [w' + 1], [tRun], lZ (aV q o)))) = 0 := h0
        have N : NLd (if lU (aV q o) = 20 then sE q 4 else sL q o (up1 (aV q) o (lX (aV q o), lU (aV q o), [], (r.map (fun d => d.1)).reverse ++ [w' + 1], [tRun], lZ (aV q o)))) := N
        show NLp (if lU (aV q o) = 20 then sE q 4 else sL q o (up1 (aV q) o (lX (aV q o), lU (aV q o), [], (r.map (fun d => d.1)).reverse ++ [w' + 1], [tRun], lZ (aV q o))))
        by_cases h20 : lU (aV q o) = 20
        · rw [if_pos h20] at h0
          exact absurd h0 (show ¬ (4 : Nat) = 0 by decide)
        · rw [if_neg h20] at N ⊢
          intro _
          have := (N o (Nat.le_refl _)).1
          have this : lU (up1 (aV q) o (lX (aV q o), lU (aV q o), [], (r.map (fun d => d.1)).reverse ++ [w' + 1], [tRun], lZ (aV q o)) o) ≤ 20 := this
          show lU (up1 (aV q) o (lX (aV q o), lU (aV q o), [], (r.map (fun d => d.1)).reverse ++ [w' + 1], [tRun], lZ (aV q o)) o) < 20
          rw [up1_at] at this ⊢
          have this : lU (aV q o) ≤ 20 := this
          show lU (aV q o) < 20
          omega
  · refine fun h => ?_
    exfalso
    refine h (fun q => ?_)
    have q : (topK S).head?.map (fun t => t.1) = some 12 := q
    rw [lv.2.2.2] at q
    cases r with
    | nil => cases q
    | cons b m' =>
      have q : b.1 = 12 := by simpa using q
      exact J.2.2.2.1.n12 (l1 := t :: (m ++ [e8])) (l2 := m') (Nat.le_refl (aL s)) (by show topK s = _; rw [ht, el]; simp) (Or.inr (by simp)) q
theorem NLp.force {fs : List Fn} {h : Bool} {s : Ac} {rk : Nat → Nat} {t : Tk} {l : List Tk} (J : JR fs s rk) (ht : topK s = t :: l) {x : Nat} (N : NLd (forceG fs h (setK s l) x)) (ho : tW (aF s x) ≤ aL s) (h0 : aE (forceG fs h (setK s l) x) = 0) : NLp (forceG fs h (setK s l) x) := by
  by_cases h6 : tK (aF s x) = 6
  · have e : forceG fs h (setK s l) x = sL (setK s l) (aL s + 1) (up1 (aV (setK s l)) (aL s + 1) (x, 0, [], [], [tRun], 0)) := by
      unfold forceG
      rw [show tK (aF (setK s l) x) = 6 from h6]
      rfl
    rw [e]
    intro _
    show lU (up1 (aV (setK s l)) (aL s + 1) (x, 0, [], [], [tRun], 0) (aL s + 1)) < 20
    rw [up1_at]
    show (0 : Nat) < 20
    decide
  · exact NLp.sh (o := tW (aF s x)) J ht N (shN_force lvs_set h6) ho h0
/-- a turn of both machines that is the same -/
theorem NA.both {fs : List Fn} {h : Bool} {s : Ac} {rk : Nat → Nat} {k y a b : Nat} {p : Tr} {l : List Tk} (hf : PW fs [] none) (J : JR fs s rk) (N : NA s) (hE : aE s = 0) (ht : topK s = (k, y, a, b, p) :: l) (hWR : k = 0 → WRc fs (setK s l) (root s y) ∧ WRe (setK s l) (root s y)) :
    (k = 0 → aE (forceG fs h (setK s l) (root s y)) = 0 → NA (forceG fs h (setK s l) (root s y))) ∧
    ((k = 4 ∨ k = 5) → tK (aF s (root s y)) < 2 → 10 ≤ tcode p → aE (metA fs (setK s l) p (root s y) a) = 0 → NA (metA fs (setK s l) p (root s y) a)) ∧
    (k = 4 → tcode p < 10 → NA (nameA (setK s l) a (tcode p) y)) ∧
    (k = 6 → NA (endG h (setK s l) y)) ∧ (k = 7 → NA (data (setK s l) y 1 none none)) ∧
    (k = 8 → aE (failA (setK s l) (tW (aF s y))) = 0 → NA (failA (setK s l) (tW (aF s y)))) ∧
    (k = 9 → NA (sL (data (setK s l) y 1 none none) (aL s - 1) (aV (setK s l)))) ∧
    (k = 10 → aE (uniteA (setK s l) (root s y) (root s a) b) = 0 → NA (uniteA (setK s l) (root s y) (root s a) b)) ∧
    (k = 11 → aE (askA (setK s l) (root s y) (root s a) b) = 0 → NA (askA (setK s l) (root s y) (root s a) b)) ∧
    (k = 12 → aE (runA (setK s l)) = 0 → NA (runA (setK s l))) ∧
    (k ≠ 12 → k ≠ 9 → NA (setK s l)) := by
  obtain ⟨N1, N2, N3⟩ := N
  obtain ⟨q1, q2⟩ := J.2.2.2.1 (aL s) (Nat.le_refl _) [] _ l ht
  have lv := lvs_set (s := s) (l := l)
  have N2' : NLd (setK s l) := N2.kg kg_setK
  have n4 := N1.2.2.2.1
  refine ⟨?_, ?_, ?_, ?_, ?_, ?_, ?_, ?_, ?_, ?_, ?_⟩
  · intro e h0
    subst e
    have hy := q1 y (List.mem_cons_self ..)
    have ho : tW (aF s (root s y)) ≤ aL s := Nat.le_trans (J.1.own hy.1) hy.2
    have nd : NLd (forceG fs h (setK s l) (root s y)) := NLd.force hf N2' (fun k2 => by
      obtain ⟨xf, e, _⟩ := ((J.2.2.1.1 _ (J.1.lt hy.1)).2.2.2.2.1 k2).1
      exact ⟨xf, e⟩) ho (hWR rfl).1 (hWR rfl).2 h0
    exact ⟨N1.force hf J ht (hWR rfl).1 h0, nd, NLp.force J ht nd ho h0⟩
  · intro e hk h10 h0
    have em : mth (k, y, a, b, p) = [y, a] := by rcases e with e | e <;> subst e <;> rfl
    rw [em] at q1
    have hc := q1 a (List.mem_cons_of_mem _ (List.mem_cons_self ..))
    have hp : ptr fs p := by
      rcases e with e | e <;> subst e <;> exact q2.1
    have nd : NLd (metA fs (setK s l) p (root s y) a) := N2'.met hc.2 h0
    exact ⟨N1.met J ht e hp h10 hk h0, nd, NLp.sh (o := tW (aF s a)) J ht nd (shp_met lv).n hc.2 h0⟩
  · intro e w
    subst e
    exact ⟨N1.pop ht (show (4 : Nat) ≠ 12 by decide) lv (fun _ _ _ _ => rfl) rfl (Nat.le_refl _) n4 rfl rfl (fun _ _ => rfl) (Nat.le_refl _), N2', NLp.of J ht (S := nameA (setK s l) a (tcode p) y) lv n12_nil⟩
  · intro e
    subst e
    have nd : NLd (endG h (setK s l) y) := N2'.endc
    refine ⟨N1.endc hf.1 J ht, nd, ?_⟩
    rcases shN_end (h := h) (c := y) lv with ⟨new, lv2, nn⟩ | ⟨q, lv2, e2⟩ | ⟨m, e8, r, el, em, e1, lv2⟩
    · exact NLp.of J ht lv2 nn
    · have ez : aE (endG h (setK s l) y) = 0 := by
        obtain ⟨rk', _, _⟩ := J.endc (h := h) hf.1 ht
        unfold endG
        simp only []
        split <;> exact hE
      rw [e2] at ez
      exact absurd ez (show ¬ (2 : Nat) = 0 by decide)
    · refine fun hh => ?_
      exfalso
      refine hh (fun q => ?_)
      have q : (topK (endG h (setK s l) y)).head?.map (fun t => t.1) = some 12 := q
      rw [lv2.2.2.2] at q
      cases r with
      | nil => cases q
      | cons b' m' =>
        have q : b'.1 = 12 := by simpa using q
        exact J.2.2.2.1.n12 (l1 := (6, y, a, b, p) :: (m ++ [e8])) (l2 := m') (Nat.le_refl (aL s)) (by show topK s = _; rw [ht, el]; simp) (Or.inr (by simp)) q
  · intro e
    subst e
    have hy := q1 y (List.mem_cons_self ..)
    exact ⟨N1.dat (q := setK s l) J ht (show (7 : Nat) ≠ 12 by decide) hy.1 ⟨y, List.mem_cons_self .., Nat.le_refl _⟩ lv rfl rfl rfl rfl (Nat.le_refl _) n4, N2', NLp.of J ht (S := data (setK s l) y 1 none none) lv n12_nil⟩
  · intro e h0
    subst e
    have hy := q1 y (List.mem_cons_self ..)
    have nd := (N2'.fail (o := tW (aF s y)) hy.2 h0).1
    exact ⟨N1.fail J ht (show (8 : Nat) ≠ 12 by decide) lv rfl rfl rfl rfl (Nat.le_refl _) n4 hy.2 h0, nd, NLp.sh (o := tW (aF s y)) J ht nd (Or.inr (Or.inl ⟨_, lv, rfl⟩)) hy.2 h0⟩
  · intro e
    subst e
    have hj1 : 1 ≤ aL s := q2.2.1
    refine ⟨N1.val J ht, fun j hj => N2' j (by have hj : j ≤ aL s - 1 := hj; show j ≤ aL s; omega), fun hh => ?_⟩
    exfalso
    refine hh ?_
    show (lK (aV (setK s l) (aL s - 1))).head?.map (fun t => t.1) ≠ some 12
    rw [lv.2.2.1 (aL s - 1) (by omega)]
    exact J.2.2.2.1.lv (by omega) (Or.inl (by omega))
  · intro e h0
    subst e
    have hu := q1 b (List.mem_cons_of_mem _ (List.mem_cons_of_mem _ (List.mem_cons_self ..)))
    have nd : NLd (uniteA (setK s l) (root s y) (root s a) b) := N2'.unite hu.2 h0
    exact ⟨N1.unite J ht h0, nd, NLp.sh (o := tW (aF s b)) J ht nd (shp_unite lv).n hu.2 h0⟩
  · intro e h0
    subst e
    have nd : NLd (askA (setK s l) (root s y) (root s a) b) := N2'.ask
    exact ⟨N1.ask J ht h0, nd, NLp.sh (o := 0) J ht nd (shp_ask lv q2.2.2).n (Nat.zero_le _) h0⟩
  · intro e h0
    subst e
    have hl : ¬ liv s (aL s) := fun q => q (by
      have : lK (aV s (aL s)) = (12, y, a, b, p) :: l := ht
      rw [this]
      rfl)
    have h20 := N3 hl
    have nd : NLd (runA (setK s l)) := N2'.run (by show lU (aV (setK s l) (aL s)) < 20; rw [((kg_setK (s := s) (l := l)).2 _).1]; exact h20) h0 hE
    obtain ⟨el, _, _, _, _⟩ := q2
    subst el
    refine ⟨N1.run hf.1 J ht rfl hE h0, nd, fun hh => ?_⟩
    exfalso
    refine hh (fun q => ?_)
    have hS : ¬ aS s = 100 := fun hs => by
      rw [runA_no (s := setK s []) hs] at h0
      exact absurd h0 (show ¬ (4 : Nat) = 0 by decide)
    have hgo := runA_go (s := setK s []) hS hE rfl
    have q : (topK (runA (setK s []))).head?.map (fun t => t.1) = some 12 := q
    rw [hgo, push_push] at q
    have q : (topK (push (sL (addT (sS (setK s []) (aS (setK s []) + 1)) _) _ _) (oT 1 _ ++ [(9, _, 0, 0, .nil)]))).head?.map (fun t => t.1) = some 12 := q
    rw [topK_push] at q
    cases e : (mkA (aN (setK s []) (tP (aF (setK s []) (lX (aV (setK s []) (aL (setK s []))))))) (aL (setK s [])) (tP (aF (setK s []) (lX (aV (setK s []) (aL (setK s [])))))) (tT (aF (setK s []) (lX (aV (setK s []) (aL (setK s [])))))) (aC (setK s []))).1 with
    | none =>
      rw [e] at q
      exact absurd q (show ¬ some (9 : Nat) = some 12 by decide)
    | some v =>
      rw [e] at q
      exact absurd q (show ¬ some (1 : Nat) = some 12 by decide)
  · intro e e9
    exact ⟨N1.pop ht e lv (fun _ _ _ _ => rfl) rfl (Nat.le_refl _) n4 rfl rfl (fun _ _ => rfl) (Nat.le_refl _), N2', NLp.of J ht lv n12_nil⟩
