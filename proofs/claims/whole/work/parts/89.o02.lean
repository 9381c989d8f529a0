/-! A RUN WITHIN IS MADE AGAIN: what tasks are for, with ends for things -/
def rnt (q : Ac) (t : Tk) : Tk := match t.1 with
  | 4 => (4, root q t.2.1, t.2.2.1, t.2.2.2.1, t.2.2.2.2)
  | 10 => (10, root q t.2.1, root q t.2.2.1, t.2.2.2.1, t.2.2.2.2)
  | 11 => (11, root q t.2.1, root q t.2.2.1, t.2.2.2.1, t.2.2.2.2)
  | _ => t
noncomputable def nw (q : Ac) (t : Tk) : List Tk := (nz q t).map (rnt q)
noncomputable def ew (q : Ac) (l : List Tk) : List Tk := (er q l).map (rnt q)
theorem ew_app {q : Ac} (l l' : List Tk) : ew q (l ++ l') = ew q l ++ ew q l' := by
  unfold ew
  rw [er_app, List.map_append]
theorem ew_cons {q : Ac} (t : Tk) (l : List Tk) : ew q (t :: l) = nw q t ++ ew q l := List.map_append
theorem ew_one {q : Ac} (t : Tk) : ew q [t] = nw q t := by
  unfold ew nw
  rw [er_one]
theorem rnt_eq {s S : Ac} (e1 : aC S = aC s) (e2 : aF S = aF s) : rnt S = rnt s := by
  have er : ∀ z, root S z = root s z := fun z => by unfold root; rw [e1, e2]
  funext t
  unfold rnt
  rw [er, er]
theorem nw_eq {s S : Ac} (e1 : aC S = aC s) (e2 : aF S = aF s) (t : Tk) : nw S t = nw s t := by
  unfold nw
  rw [nz_eq e1 e2, rnt_eq e1 e2]
theorem ew_eq {s S : Ac} (e1 : aC S = aC s) (e2 : aF S = aF s) (l : List Tk) : ew S l = ew s l := by
  unfold ew
  rw [er_eq e1 e2, rnt_eq e1 e2]
/-- things of what a task is for -/
theorem nz_mth {s : Ac} {rk : Nat → Nat} (g : GR s rk) {t e : Tk} (ht : ∀ y, y ∈ mth t → y < aC s) (he : e ∈ nz s t) : ∀ y, y ∈ mth e → y < aC s := by
  obtain ⟨k, y, a, b, p⟩ := t
  match k, ht, he with
  | 0, ht, he =>
    by_cases w : tK (aF s (root s y)) < 2
    · rw [nz0.1 w] at he
      exact (List.not_mem_nil he).elim
    · rw [nz0.2 (Nat.not_lt.mp w)] at he
      rw [List.mem_singleton.mp he]
      intro z hz
      rw [List.mem_singleton.mp hz]
      exact g.lt (ht y (List.mem_cons_self ..))
  | 1, ht, he =>
    by_cases w : Cl s y
    · rw [(nz12 (Or.inl rfl)).1 w] at he
      exact (List.not_mem_nil he).elim
    · rw [(nz12 (Or.inl rfl)).2 w] at he
      rw [List.mem_singleton.mp he]
      intro z hz
      rw [List.mem_singleton.mp hz]
      exact g.lt (ht y (List.mem_cons_self ..))
  | 2, ht, he =>
    by_cases w : Cl s y
    · rw [(nz12 (Or.inr rfl)).1 w] at he
      exact (List.not_mem_nil he).elim
    · rw [(nz12 (Or.inr rfl)).2 w] at he
      rw [List.mem_singleton.mp he]
      intro z hz
      rw [List.mem_singleton.mp hz]
      exact g.lt (ht y (List.mem_cons_self ..))
  | 3, _, he => exact (List.not_mem_nil he).elim
  | 4, ht, he =>
    rw [List.mem_singleton.mp he]
    exact ht
  | 5, ht, he =>
    rw [List.mem_singleton.mp he]
    exact ht
  | 6, ht, he =>
    rw [List.mem_singleton.mp he]
    exact ht
  | 7, ht, he =>
    rw [List.mem_singleton.mp he]
    exact ht
  | 8, ht, he =>
    rw [List.mem_singleton.mp he]
    exact ht
  | 9, ht, he =>
    rw [List.mem_singleton.mp he]
    exact fun y hy => (List.not_mem_nil hy).elim
  | 10, ht, he =>
    rw [List.mem_singleton.mp he]
    exact ht
  | 11, ht, he =>
    rw [List.mem_singleton.mp he]
    exact ht
  | 12, ht, he =>
    rw [List.mem_singleton.mp he]
    exact fun y hy => (List.not_mem_nil hy).elim
  | 13, ht, he =>
    rcases List.mem_cons.mp he with e | e
    · rw [e]
      exact ht
    · rw [List.mem_singleton.mp e]
      exact fun z hz => ht z (by rw [List.mem_singleton.mp hz]; exact List.mem_cons_of_mem _ (List.mem_cons_of_mem _ (List.mem_cons_self ..)))
  | 14, ht, he =>
    rcases List.mem_cons.mp he with e | e
    · rw [e]
      exact ht
    · rw [List.mem_singleton.mp e]
      exact fun z hz => ht z (by rw [List.mem_singleton.mp hz]; exact List.mem_cons_of_mem _ (List.mem_cons_of_mem _ (List.mem_cons_self ..)))
  | n + 15, _, he => exact (List.not_mem_nil he).elim
theorem er_mth {s : Ac} {rk : Nat → Nat} (g : GR s rk) : ∀ {l : List Tk}, (∀ t, t ∈ l → ∀ y, y ∈ mth t → y < aC s) → ∀ e, e ∈ er s l → ∀ y, y ∈ mth e → y < aC s
  | [], _, e, he => (List.not_mem_nil he).elim
  | t :: l, h, e, he => by
    rcases List.mem_append.mp (show e ∈ nz s t ++ er s l from he) with q | q
    · exact nz_mth g (h t (List.mem_cons_self ..)) q
    · exact er_mth g (fun z hz => h z (List.mem_cons_of_mem _ hz)) e q
/-- later on an end is as good as what has it -/
theorem nw_rnt {s S : Ac} {rk rk' : Nat → Nat} (h : Ev s S) (g : GR s rk) (g' : GR S rk') {e : Tk} (he : ∀ y, y ∈ mth e → y < aC s) : nw S (rnt s e) = nw S e := by
  obtain ⟨k, y, a, b, p⟩ := e
  match k, he with
  | 0, _ => rfl
  | 1, _ => rfl
  | 2, _ => rfl
  | 3, _ => rfl
  | 4, he =>
    show [((4, root S (root s y), a, b, p) : Tk)] = [(4, root S y, a, b, p)]
    rw [← h.rt g g' (he y (List.mem_cons_self ..))]
  | 5, _ => rfl
  | 6, _ => rfl
  | 7, _ => rfl
  | 8, _ => rfl
  | 9, _ => rfl
  | 10, he =>
    show [((10, root S (root s y), root S (root s a), b, .nil) : Tk)] = [(10, root S y, root S a, b, .nil)]
    rw [← h.rt g g' (he y (List.mem_cons_self ..)), ← h.rt g g' (he a (List.mem_cons_of_mem _ (List.mem_cons_self ..)))]
  | 11, he =>
    show [((11, root S (root s y), root S (root s a), b, .nil) : Tk)] = [(11, root S y, root S a, b, .nil)]
    rw [← h.rt g g' (he y (List.mem_cons_self ..)), ← h.rt g g' (he a (List.mem_cons_of_mem _ (List.mem_cons_self ..)))]
  | 12, _ => rfl
  | 13, _ => rfl
  | 14, _ => rfl
  | n + 15, _ => rfl
theorem ew_rnt {s S : Ac} {rk rk' : Nat → Nat} (h : Ev s S) (g : GR s rk) (g' : GR S rk') : ∀ {l : List Tk}, (∀ t, t ∈ l → ∀ y, y ∈ mth t → y < aC s) → ew S (l.map (rnt s)) = ew S l
  | [], _ => rfl
  | t :: l, ht => by
    show ew S (rnt s t :: l.map (rnt s)) = ew S (t :: l)
    rw [ew_cons, ew_cons, nw_rnt h g g' (ht t (List.mem_cons_self ..)), ew_rnt h g g' (fun z hz => ht z (List.mem_cons_of_mem _ hz))]
theorem ew_ev {s S : Ac} {rk rk' : Nat → Nat} (h : Ev s S) (g : GR s rk) (g' : GR S rk') {l : List Tk} (ht : ∀ t, t ∈ l → ∀ y, y ∈ mth t → y < aC s) : ew S l = ew S (ew s l) := by
  have h1 : ew S (er s l) = ew S l := by
    unfold ew
    rw [← er_ev h g g' ht]
  have h2 : ew S (ew s l) = ew S (er s l) := ew_rnt h g g' (er_mth g ht)
  rw [h2, h1]
/-- tasks that are alike now are so later on -/
theorem ew_keep {s S : Ac} {rk rk' : Nat → Nat} (h : Ev s S) (g : GR s rk) (g' : GR S rk') {l l' : List Tk} (ht : ∀ t, t ∈ l → ∀ y, y ∈ mth t → y < aC s) (ht' : ∀ t, t ∈ l' → ∀ y, y ∈ mth t → y < aC s) (e : ew s l = ew s l') : ew S l = ew S l' := by
  rw [ew_ev h g g' ht, ew_ev h g g' ht', e]
/-! tasks of the one taken over to the other -/
noncomputable def trx (Dm : Nat → Prop) (be : Nat → Nat) (t : Tk) : Tk := match t.1 with
  | 4 => (4, bhx Dm be t.2.1, bhx Dm be t.2.2.1, t.2.2.2.1, t.2.2.2.2)
  | 5 => (5, bhx Dm be t.2.1, bhx Dm be t.2.2.1, t.2.2.2.1, t.2.2.2.2)
  | 10 => (10, bhx Dm be t.2.1, bhx Dm be t.2.2.1, bhx Dm be t.2.2.2.1, t.2.2.2.2)
  | 11 => (11, bhx Dm be t.2.1, bhx Dm be t.2.2.1, bhx Dm be t.2.2.2.1, t.2.2.2.2)
  | 12 => t
  | 13 => (13, bhx Dm be t.2.1, bhx Dm be t.2.2.1, bhx Dm be t.2.2.2.1, t.2.2.2.2)
  | 14 => (14, bhx Dm be t.2.1, bhx Dm be t.2.2.1, bhx Dm be t.2.2.2.1, t.2.2.2.2)
  | _ => (t.1, bhx Dm be t.2.1, t.2.2)
/-- a task of the one's own -/
def TOw (j : Nat) (Dm : Nat → Prop) (p : Ac) (t : Tk) : Prop := (∀ y, y ∈ mth t → Dm y ∨ tW (aF p y) < j) ∧ (match t.1 with
  | 4 => Dm t.2.2.1
  | 5 => Dm t.2.2.1
  | 6 => Dm t.2.1
  | 7 => Dm t.2.1
  | 8 => Dm t.2.1
  | 9 => Dm t.2.1 ∨ tW (aF p t.2.1) < j
  | 10 => Dm t.2.2.2.1
  | 11 => Dm t.2.2.2.1
  | 13 => Dm t.2.2.2.1
  | 14 => Dm t.2.2.2.1
  | _ => True)
theorem trx_eq {Dm Dm' : Nat → Prop} {be be' : Nat → Nat} {t : Tk} (h : ∀ y, y ∈ mth t ∨ (t.1 = 9 ∧ y = t.2.1) → bhx Dm' be' y = bhx Dm be y) : trx Dm' be' t = trx Dm be t := by
  obtain ⟨k, y, a, b, p⟩ := t
  have m1 : ∀ {x : Nat} {l : List Nat}, x ∈ x :: l := fun {x l} => List.mem_cons_self ..
  have h1 : ∀ k, (y ∈ mth (k, y, a, b, p) ∨ (k = 9 ∧ y = y)) → (∀ z, z ∈ mth (k, y, a, b, p) ∨ (k = 9 ∧ z = y) → bhx Dm' be' z = bhx Dm be z) → bhx Dm' be' y = bhx Dm be y := fun k hy h => h y hy
  match k, h with
  | 0, h => show ((0, _, _) : Tk) = (0, _, _); rw [h y (Or.inl m1)]
  | 1, h => show ((1, _, _) : Tk) = (1, _, _); rw [h y (Or.inl m1)]
  | 2, h => show ((2, _, _) : Tk) = (2, _, _); rw [h y (Or.inl m1)]
  | 3, h => show ((3, _, _) : Tk) = (3, _, _); rw [h y (Or.inl m1)]
  | 4, h => show ((4, _, _, _, _) : Tk) = (4, _, _, _, _); rw [h y (Or.inl m1), h a (Or.inl (List.mem_cons_of_mem _ m1))]
  | 5, h => show ((5, _, _, _, _) : Tk) = (5, _, _, _, _); rw [h y (Or.inl m1), h a (Or.inl (List.mem_cons_of_mem _ m1))]
  | 6, h => show ((6, _, _) : Tk) = (6, _, _); rw [h y (Or.inl m1)]
  | 7, h => show ((7, _, _) : Tk) = (7, _, _); rw [h y (Or.inl m1)]
  | 8, h => show ((8, _, _) : Tk) = (8, _, _); rw [h y (Or.inl m1)]
  | 9, h => show ((9, _, _) : Tk) = (9, _, _); rw [h y (Or.inr ⟨rfl, rfl⟩)]
  | 10, h => show ((10, _, _, _, _) : Tk) = (10, _, _, _, _); rw [h y (Or.inl m1), h a (Or.inl (List.mem_cons_of_mem _ m1)), h b (Or.inl (List.mem_cons_of_mem _ (List.mem_cons_of_mem _ m1)))]
  | 11, h => show ((11, _, _, _, _) : Tk) = (11, _, _, _, _); rw [h y (Or.inl m1), h a (Or.inl (List.mem_cons_of_mem _ m1)), h b (Or.inl (List.mem_cons_of_mem _ (List.mem_cons_of_mem _ m1)))]
  | 12, _ => rfl
  | 13, h => show ((13, _, _, _, _) : Tk) = (13, _, _, _, _); rw [h y (Or.inl m1), h a (Or.inl (List.mem_cons_of_mem _ m1)), h b (Or.inl (List.mem_cons_of_mem _ (List.mem_cons_of_mem _ m1)))]
  | 14, h => show ((14, _, _, _, _) : Tk) = (14, _, _, _, _); rw [h y (Or.inl m1), h a (Or.inl (List.mem_cons_of_mem _ m1)), h b (Or.inl (List.mem_cons_of_mem _ (List.mem_cons_of_mem _ m1)))]
  | n + 15, h => show ((n + 15, _, _) : Tk) = (n + 15, _, _); rw [h y (Or.inl m1)]
/-- things of a task taken over -/
theorem trx_mth {Dm : Nat → Prop} {be : Nat → Nat} {t : Tk} : ∀ z, z ∈ mth (trx Dm be t) → ∃ y, y ∈ mth t ∧ z = bhx Dm be y := by
  obtain ⟨k, y, a, b, p⟩ := t
  have one : ∀ z, z ∈ [bhx Dm be y] → ∃ x, x ∈ [y] ∧ z = bhx Dm be x := fun z hz => ⟨y, List.mem_cons_self .., List.mem_singleton.mp hz⟩
  have two : ∀ z, z ∈ [bhx Dm be y, bhx Dm be a] → ∃ x, x ∈ [y, a] ∧ z = bhx Dm be x := fun z hz => by
    rcases List.mem_cons.mp hz with e | e
    · exact ⟨y, List.mem_cons_self .., e⟩
    · exact ⟨a, List.mem_cons_of_mem _ (List.mem_cons_self ..), List.mem_singleton.mp e⟩
  have thr : ∀ z, z ∈ [bhx Dm be y, bhx Dm be a, bhx Dm be b] → ∃ x, x ∈ [y, a, b] ∧ z = bhx Dm be x := fun z hz => by
    rcases List.mem_cons.mp hz with e | e
    · exact ⟨y, List.mem_cons_self .., e⟩
    · rcases List.mem_cons.mp e with e | e
      · exact ⟨a, List.mem_cons_of_mem _ (List.mem_cons_self ..), e⟩
      · exact ⟨b, List.mem_cons_of_mem _ (List.mem_cons_of_mem _ (List.mem_cons_self ..)), List.mem_singleton.mp e⟩
  match k with
  | 0 => exact one
  | 1 => exact one
  | 2 => exact one
  | 3 => exact one
  | 4 => exact two
  | 5 => exact two
  | 6 => exact one
  | 7 => exact one
  | 8 => exact one
  | 9 => exact fun z hz => (List.not_mem_nil hz).elim
  | 10 => exact thr
  | 11 => exact thr
  | 12 => exact fun z hz => (List.not_mem_nil hz).elim
  | 13 => exact thr
  | 14 => exact thr
  | n + 15 => exact one
