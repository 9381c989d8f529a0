/-! BOTH MACHINES ALIKE: the same but for tasks without effect, and marks -/
def wk (a : Ac) (K : Nat → List Tk) (M : Nat → Nat) : Ac := (a.1, M, a.2.2.1, (aL a, fun j => pTk (aV a j) (K j)), a.2.2.2.2)
/-- what a task is for -/
noncomputable def nz (s : Ac) (t : Tk) : List Tk := by
  classical exact match t.1 with
    | 0 => if tK (aF s (root s t.2.1)) < 2 then [] else [(0, root s t.2.1, 0, 0, .nil)]
    | 1 => if Cl s t.2.1 then [] else [(1, root s t.2.1, 0, 0, .nil)]
    | 2 => if Cl s t.2.1 then [] else [(1, root s t.2.1, 0, 0, .nil)]
    | 3 => []
    | 4 => [(4, t.2)]
    | 5 => [(4, t.2)]
    | 6 => [(6, t.2.1, 0, 0, .nil)]
    | 7 => [(7, t.2.1, 0, 0, .nil)]
    | 8 => [(8, t.2.1, 0, 0, .nil)]
    | 9 => [(9, t.2.1, 0, 0, .nil)]
    | 10 => [(10, t.2.1, t.2.2.1, t.2.2.2.1, .nil)]
    | 11 => [(11, t.2.1, t.2.2.1, t.2.2.2.1, .nil)]
    | 12 => [tRun]
    | 13 => [(10, t.2.1, t.2.2.1, t.2.2.2.1, .nil), (7, t.2.2.2.1, 0, 0, .nil)]
    | 14 => [(11, t.2.1, t.2.2.1, t.2.2.2.1, .nil), (8, t.2.2.2.1, 0, 0, .nil)]
    | _ => []
noncomputable def er (s : Ac) : List Tk → List Tk
  | [] => []
  | t :: l => nz s t ++ er s l
theorem er_app {s : Ac} : ∀ (l l' : List Tk), er s (l ++ l') = er s l ++ er s l'
  | [], _ => rfl
  | t :: l, l' => by
    show nz s t ++ er s (l ++ l') = nz s t ++ er s l ++ er s l'
    rw [er_app l l', List.append_assoc]
theorem nz0 {s : Ac} {y a b : Nat} {p : Tr} : (tK (aF s (root s y)) < 2 → nz s (0, y, a, b, p) = []) ∧ (2 ≤ tK (aF s (root s y)) → nz s (0, y, a, b, p) = [(0, root s y, 0, 0, .nil)]) := by
  exact ⟨fun h => if_pos h, fun h => if_neg (Nat.not_lt.mpr h)⟩
theorem nz12 {s : Ac} {k y a b : Nat} {p : Tr} (hk : k = 1 ∨ k = 2) : (Cl s y → nz s (k, y, a, b, p) = []) ∧ (¬ Cl s y → nz s (k, y, a, b, p) = [(1, root s y, 0, 0, .nil)]) := by
  rcases hk with e | e <;> subst e <;> exact ⟨fun h => if_pos h, fun h => if_neg h⟩
/-- a state that has the same things tells the same of tasks -/
theorem nz_eq {s S : Ac} (e1 : aC S = aC s) (e2 : aF S = aF s) : nz S = nz s := by
  have er : ∀ z, root S z = root s z := fun z => by unfold root; rw [e1, e2]
  have eR : ∀ v w, Rc S v w ↔ Rc s v w := fun v w => by
    unfold Rc
    rw [e2, er]
    refine ⟨fun ⟨n, p, p0, p1, p2⟩ => ⟨n, p, p0, p1, fun i hi => ?_⟩, fun ⟨n, p, p0, p1, p2⟩ => ⟨n, p, p0, p1, fun i hi => ?_⟩⟩
    · obtain ⟨r1, w', r2, r3⟩ := p2 i hi
      exact ⟨r1, w', r2, r3.trans (er _)⟩
    · obtain ⟨r1, w', r2, r3⟩ := p2 i hi
      exact ⟨r1, w', r2, r3.trans (er _).symm⟩
  have eC : ∀ y, Cl S y ↔ Cl s y := fun y => by
    unfold Cl
    rw [e2]
    exact ⟨fun h z hz => h z ((eR _ _).mpr hz), fun h z hz => h z ((eR _ _).mp hz)⟩
  funext t
  obtain ⟨k, y, a, b, p⟩ := t
  match k with
  | 0 =>
    by_cases w : tK (aF s (root s y)) < 2
    · rw [nz0.1 w, (nz0 (s := S)).1 (by rw [e2, er]; exact w)]
    · rw [(nz0 (s := s)).2 (by omega), (nz0 (s := S)).2 (by rw [e2, er]; omega), er]
  | 1 =>
    by_cases w : Cl s y
    · rw [(nz12 (Or.inl rfl)).1 w, (nz12 (Or.inl rfl)).1 ((eC y).mpr w)]
    · rw [(nz12 (Or.inl rfl)).2 w, (nz12 (Or.inl rfl)).2 (fun q => w ((eC y).mp q)), er]
  | 2 =>
    by_cases w : Cl s y
    · rw [(nz12 (Or.inr rfl)).1 w, (nz12 (Or.inr rfl)).1 ((eC y).mpr w)]
    · rw [(nz12 (Or.inr rfl)).2 w, (nz12 (Or.inr rfl)).2 (fun q => w ((eC y).mp q)), er]
  | 3 => rfl
  | 4 => rfl
  | 5 => rfl
  | 6 => rfl
  | 7 => rfl
  | 8 => rfl
  | 9 => rfl
  | 10 => rfl
  | 11 => rfl
  | 12 => rfl
  | 13 => rfl
  | 14 => rfl
  | n + 15 => rfl
theorem er_eq {s S : Ac} (e1 : aC S = aC s) (e2 : aF S = aF s) : ∀ l, er S l = er s l
  | [] => rfl
  | t :: l => by
    show nz S t ++ er S l = nz s t ++ er s l
    rw [nz_eq e1 e2, er_eq e1 e2 l]
/-- what a task is for later on, is so of what it is for now -/
theorem nz_ev {s S : Ac} {rk rk' : Nat → Nat} (h : Ev s S) (g : GR s rk) (g' : GR S rk') {t : Tk} (ht : ∀ y, y ∈ mth t → y < aC s) : nz S t = er S (nz s t) := by
  have one : ∀ t, er S [t] = nz S t := fun t => by
    show nz S t ++ [] = _
    rw [List.append_nil]
  obtain ⟨k, y, a, b, p⟩ := t
  match k, ht with
  | 0, ht =>
    have hy := ht y (List.mem_cons_self ..)
    have rt := h.rt g g' hy
    by_cases w : tK (aF s (root s y)) < 2
    · rw [nz0.1 w, nz0.1 (h.fo g g' hy w)]
      rfl
    · rw [(nz0 (s := s)).2 (by omega), one]
      have e : root S (root s y) = root S y := rt.symm
      by_cases w2 : tK (aF S (root S y)) < 2
      · rw [(nz0 (s := S) (y := y)).1 w2, (nz0 (s := S) (y := root s y)).1 (by rw [e]; exact w2)]
      · rw [(nz0 (s := S) (y := y)).2 (by omega), (nz0 (s := S) (y := root s y)).2 (by rw [e]; omega), e]
  | 1, ht =>
    have hy := ht y (List.mem_cons_self ..)
    have e : root S (root s y) = root S y := (h.rt g g' hy).symm
    by_cases w : Cl s y
    · rw [(nz12 (Or.inl rfl)).1 w, (nz12 (Or.inl rfl)).1 (h.cl g g' hy w)]
      rfl
    · rw [(nz12 (Or.inl rfl)).2 w, one]
      by_cases w2 : Cl S y
      · rw [(nz12 (Or.inl rfl)).1 w2, (nz12 (Or.inl rfl)).1 (w2.ro e.symm)]
      · rw [(nz12 (Or.inl rfl)).2 w2, (nz12 (Or.inl rfl)).2 (fun q => w2 (q.ro e)), e]
  | 2, ht =>
    have hy := ht y (List.mem_cons_self ..)
    have e : root S (root s y) = root S y := (h.rt g g' hy).symm
    by_cases w : Cl s y
    · rw [(nz12 (Or.inr rfl)).1 w, (nz12 (Or.inr rfl)).1 (h.cl g g' hy w)]
      rfl
    · rw [(nz12 (Or.inr rfl)).2 w, one]
      by_cases w2 : Cl S y
      · rw [(nz12 (Or.inr rfl)).1 w2, (nz12 (Or.inl rfl)).1 (w2.ro e.symm)]
      · rw [(nz12 (Or.inr rfl)).2 w2, (nz12 (Or.inl rfl)).2 (fun q => w2 (q.ro e)), e]
  | 3, _ => rfl
  | 4, _ => exact (one _).symm
  | 5, _ => exact (one _).symm
  | 6, _ => exact (one _).symm
  | 7, _ => exact (one _).symm
  | 8, _ => exact (one _).symm
  | 9, _ => exact (one _).symm
  | 10, _ => exact (one _).symm
  | 11, _ => exact (one _).symm
  | 12, _ => exact (one _).symm
  | 13, _ => rfl
  | 14, _ => rfl
  | n + 15, _ => rfl
theorem er_ev {s S : Ac} {rk rk' : Nat → Nat} (h : Ev s S) (g : GR s rk) (g' : GR S rk') : ∀ {l : List Tk}, (∀ t, t ∈ l → ∀ y, y ∈ mth t → y < aC s) → er S l = er S (er s l)
  | [], _ => rfl
  | t :: l, ht => by
    show nz S t ++ er S l = er S (nz s t ++ er s l)
    rw [er_app, nz_ev h g g' (ht t (List.mem_cons_self ..)), er_ev h g g' (fun z hz => ht z (List.mem_cons_of_mem _ hz))]
/-! the machines' steps at a state with other tasks and marks -/
theorem wk_self {a : Ac} : wk a (fun j => lK (aV a j)) (aM a) = a := rfl
theorem wk_setK {a : Ac} {K : Nat → List Tk} {M : Nat → Nat} {l : List Tk} : wk (setK a l) K M = wk a K M := by
  have : (fun j => pTk (aV (setK a l) j) (K j)) = fun j => pTk (aV a j) (K j) := by
    funext j
    show pTk (up1 (aV a) (aL a) (pTk (aV a (aL a)) l) j) (K j) = _
    rcases up1_or (f := aV a) (x := aL a) (y := j) (v := pTk (aV a (aL a)) l) with ⟨f1, f2⟩ | ⟨_, f2⟩
    · rw [f2, f1]
      rfl
    · rw [f2]
  show (a.1, M, a.2.2.1, (aL a, fun j => pTk (aV (setK a l) j) (K j)), a.2.2.2.2) = _
  rw [this]
  rfl
theorem setK_wk {a : Ac} {K : Nat → List Tk} {M : Nat → Nat} {l : List Tk} : setK (wk a K M) l = wk a (up1 K (aL a) l) M := by
  have : up1 (fun j => pTk (aV a j) (K j)) (aL a) (pTk (pTk (aV a (aL a)) (K (aL a))) l) = fun j => pTk (aV a j) (up1 K (aL a) l j) := by
    funext j
    by_cases e : j = aL a
    · subst e
      rw [up1_at, up1_at]
      rfl
    · rw [up1_ne e, up1_ne e]
  show (a.1, M, a.2.2.1, (aL a, up1 (fun j => pTk (aV a j) (K j)) (aL a) (pTk (pTk (aV a (aL a)) (K (aL a))) l)), a.2.2.2.2) = _
  rw [this]
  rfl
theorem topK_wk {a : Ac} {K : Nat → List Tk} {M : Nat → Nat} : topK (wk a K M) = K (aL a) := rfl
theorem push_wk {a : Ac} {K : Nat → List Tk} {M : Nat → Nat} {l : List Tk} : push (wk a K M) l = wk a (up1 K (aL a) (l ++ K (aL a))) M := setK_wk
theorem wk_push {a : Ac} {K : Nat → List Tk} {M : Nat → Nat} {l : List Tk} : wk (push a l) K M = wk a K M := wk_setK
theorem stepA_wk {a : Ac} {K : Nat → List Tk} {M : Nat → Nat} : stepA (wk a K M) = wk (stepA a) K M := by
  unfold stepA
  by_cases h : aS a = 100
  · rw [if_pos h, if_pos (show aS (wk a K M) = 100 from h)]
    rfl
  · rw [if_neg h, if_neg (show ¬ aS (wk a K M) = 100 from h)]
    rfl
theorem setD_wk {a : Ac} {K : Nat → List Tk} {M : Nat → Nat} {o : Nat} {d : List (Nat × Nat)} {g : List Nat} : setD (wk a K M) o d g = wk (setD a o d g) K M := by
  have : up1 (fun j => pTk (aV a j) (K j)) o (lX (aV a o), lU (aV a o), d, g, K o, lZ (aV a o)) = fun j => pTk (up1 (aV a) o (lX (aV a o), lU (aV a o), d, g, lK (aV a o), lZ (aV a o)) j) (K j) := by
    funext j
    by_cases e : j = o
    · subst e
      rw [up1_at, up1_at]
      rfl
    · rw [up1_ne e, up1_ne e]
  show (a.1, M, a.2.2.1, (aL a, up1 (fun j => pTk (aV a j) (K j)) o (lX (aV a o), lU (aV a o), d, g, K o, lZ (aV a o))), a.2.2.2.2) = _
  rw [this]
  rfl
theorem decA_wk {a : Ac} {K : Nat → List Tk} {M : Nat → Nat} {o n : Nat} : decA (wk a K M) o n = ((decA a o n).1, wk (decA a o n).2 K M) := by
  unfold decA
  by_cases h : (lD (aV a o)).length = 40
  · rw [if_pos h, if_pos (show (lD (aV (wk a K M) o)).length = 40 from h)]
    rfl
  · rw [if_neg h, if_neg (show ¬ (lD (aV (wk a K M) o)).length = 40 from h)]
    have e : lG (aV (wk a K M) o) = lG (aV a o) := rfl
    rw [e]
    cases hg : lG (aV a o) with
    | nil =>
      by_cases ho : o = 0
      · show (if o = 0 then (0, sB (wk a K M) 5 n) else (0, setD (wk a K M) o ((0, n) :: lD (aV a o)) [])) = ((if o = 0 then (0, sB a 5 n) else (0, setD a o ((0, n) :: lD (aV a o)) [])).1, wk (if o = 0 then (0, sB a 5 n) else (0, setD a o ((0, n) :: lD (aV a o)) [])).2 K M)
        rw [if_pos ho, if_pos ho]
        rfl
      · show (if o = 0 then (0, sB (wk a K M) 5 n) else (0, setD (wk a K M) o ((0, n) :: lD (aV a o)) [])) = ((if o = 0 then (0, sB a 5 n) else (0, setD a o ((0, n) :: lD (aV a o)) [])).1, wk (if o = 0 then (0, sB a 5 n) else (0, setD a o ((0, n) :: lD (aV a o)) [])).2 K M)
        rw [if_neg ho, if_neg ho, setD_wk]
    | cons w r =>
      show (w, setD (wk a K M) o ((w, n) :: lD (aV a o)) r) = (w, wk (setD a o ((w, n) :: lD (aV a o)) r) K M)
      rw [setD_wk]
theorem failA_wk {a : Ac} {K : Nat → List Tk} {M : Nat → Nat} {o : Nat} : (failA (wk a K M) o = wk (failA a o) K M ∧ (aE (failA a o) = 0 → ∀ j, lK (aV (failA a o) j) = lK (aV a j))) ∨ (failA (wk a K M) o = wk (failA a o) (up1 K o [tRun]) M ∧ lK (aV (failA a o) o) = [tRun] ∧ aL (failA a o) = o ∧ ∀ j, j ≠ o → lK (aV (failA a o) j) = lK (aV a j)) := by
  unfold failA
  by_cases ho : o = 0
  · rw [if_pos ho, if_pos ho]
    exact Or.inl ⟨rfl, fun _ _ => rfl⟩
  · rw [if_neg ho, if_neg ho, show lD (aV (wk a K M) o) = lD (aV a o) from rfl]
    cases hb : backA (lD (aV a o)) with
    | nil => exact Or.inl ⟨rfl, fun _ _ => rfl⟩
    | cons d r =>
      obtain ⟨w, n⟩ := d
      show ((if lU (aV a o) = 20 then sE (wk a K M) 4 else sL (wk a K M) o (up1 (aV (wk a K M)) o (lX (aV a o), lU (aV a o), [], (r.map (fun d => d.1)).reverse ++ [w + 1], [tRun], lZ (aV a o)))) = wk (if lU (aV a o) = 20 then sE a 4 else sL a o (up1 (aV a) o (lX (aV a o), lU (aV a o), [], (r.map (fun d => d.1)).reverse ++ [w + 1], [tRun], lZ (aV a o)))) K M ∧ _) ∨ ((if lU (aV a o) = 20 then sE (wk a K M) 4 else sL (wk a K M) o (up1 (aV (wk a K M)) o (lX (aV a o), lU (aV a o), [], (r.map (fun d => d.1)).reverse ++ [w + 1], [tRun], lZ (aV a o)))) = wk (if lU (aV a o) = 20 then sE a 4 else sL a o (up1 (aV a) o (lX (aV a o), lU (aV a o), [], (r.map (fun d => d.1)).reverse ++ [w + 1], [tRun], lZ (aV a o)))) (up1 K o [tRun]) M ∧ lK (aV (if lU (aV a o) = 20 then sE a 4 else sL a o (up1 (aV a) o (lX (aV a o), lU (aV a o), [], (r.map (fun d => d.1)).reverse ++ [w + 1], [tRun], lZ (aV a o)))) o) = [tRun] ∧ aL (if lU (aV a o) = 20 then sE a 4 else sL a o (up1 (aV a) o (lX (aV a o), lU (aV a o), [], (r.map (fun d => d.1)).reverse ++ [w + 1], [tRun], lZ (aV a o)))) = o ∧ ∀ j, j ≠ o → lK (aV (if lU (aV a o) = 20 then sE a 4 else sL a o (up1 (aV a) o (lX (aV a o), lU (aV a o), [], (r.map (fun d => d.1)).reverse ++ [w + 1], [tRun], lZ (aV a o)))) j) = lK (aV a j))
      by_cases h20 : lU (aV a o) = 20
      · rw [if_pos h20, if_pos h20]
        refine Or.inl ⟨rfl, fun h => ?_⟩
        have h : aE (if lU (aV a o) = 20 then sE a 4 else sL a o (up1 (aV a) o (lX (aV a o), lU (aV a o), [], (r.map (fun d => d.1)).reverse ++ [w + 1], [tRun], lZ (aV a o)))) = 0 := h
        rw [if_pos h20] at h
        exact absurd h (show ¬ (4 : Nat) = 0 by decide)
      · rw [if_neg h20, if_neg h20]
        refine Or.inr ⟨?_, ?_, rfl, fun j hj => ?_⟩
        · have : up1 (fun j => pTk (aV a j) (K j)) o (lX (aV a o), lU (aV a o), [], (r.map (fun d => d.1)).reverse ++ [w + 1], [tRun], lZ (aV a o)) = fun j => pTk (up1 (aV a) o (lX (aV a o), lU (aV a o), [], (r.map (fun d => d.1)).reverse ++ [w + 1], [tRun], lZ (aV a o)) j) (up1 K o [tRun] j) := by
            funext j
            by_cases e : j = o
            · subst e
              rw [up1_at, up1_at, up1_at]
              rfl
            · rw [up1_ne e, up1_ne e, up1_ne e]
          show (a.1, M, a.2.2.1, (o, up1 (fun j => pTk (aV a j) (K j)) o (lX (aV a o), lU (aV a o), [], (r.map (fun d => d.1)).reverse ++ [w + 1], [tRun], lZ (aV a o))), a.2.2.2.2) = _
          rw [this]
          rfl
        · show lK (up1 (aV a) o _ o) = _
          rw [up1_at]
        · show lK (up1 (aV a) o _ j) = _
          rw [up1_ne hj]
