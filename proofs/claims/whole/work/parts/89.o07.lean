/-! A RUN WITHIN IS MADE AGAIN: what is made -/
/-- parts of what is made of a text with one scope, or with the other -/
def PRp (g g' : Nat → Option Nat) (n n' len : Nat) (x y : Option Nat) : Prop := (∃ k, x = g k ∧ y = g' k) ∨ (∃ i, i < len ∧ x = some (n + i) ∧ y = some (n' + i)) ∨ (x = none ∧ y = none)
def PRt (g g' : Nat → Option Nat) (n n' len o o' pl pl' : Nat) (t u : Th) : Prop := tK u = tK t ∧ tO u = tO t ∧ tW t = o ∧ tW u = o' ∧ tT u = tT t ∧ PRp g g' n n' len (tA t) (tA u) ∧ PRp g g' n n' len (tB t) (tB u) ∧ (Nmd t → tP t = pl ∧ tP u = pl')
theorem PRp.more {g g' : Nat → Option Nat} {n n' len len' : Nat} {x y : Option Nat} (h : PRp g g' n n' len x y) (hl : len ≤ len') : PRp g g' n n' len' x y := by
  rcases h with h | ⟨i, h1, h2⟩ | h
  · exact Or.inl h
  · exact Or.inr (Or.inl ⟨i, by omega, h2⟩)
  · exact Or.inr (Or.inr h)
theorem PRt.more {g g' : Nat → Option Nat} {n n' len len' o o' pl pl' : Nat} {t u : Th} (h : PRt g g' n n' len o o' pl pl' t u) (hl : len ≤ len') : PRt g g' n n' len' o o' pl pl' t u := by
  obtain ⟨a1, a2, a3, a4, a5, a6, a7, a8⟩ := h
  exact ⟨a1, a2, a3, a4, a5, a6.more hl, a7.more hl, a8⟩
/-- n, n': where all begins; d: how much is made already -/
theorem mkA_two {nf : Nat} {fp : Nat → Nat} {g g' : Nat → Option Nat} {o o' pl pl' n n' : Nat} {t : Tr} (hw : twf nf fp t) : ∀ d : Nat, (mkA g o pl t (n + d)).2.length = (mkA g' o' pl' t (n' + d)).2.length ∧ PRp g g' n n' (d + (mkA g o pl t (n + d)).2.length) (mkA g o pl t (n + d)).1 (mkA g' o' pl' t (n' + d)).1 ∧ ∀ (i : Nat) (a b : Th), (mkA g o pl t (n + d)).2[i]? = some a → (mkA g' o' pl' t (n' + d)).2[i]? = some b → PRt g g' n n' (d + (mkA g o pl t (n + d)).2.length) o o' pl pl' a b := by
  have nN : ∀ (c : Nat) (A B : Option Nat) (w : Nat), c ≠ 33 → ¬ Nmd (kdc c, whc c, A, B, w, 0, .nil) := fun c A B w e h => by
    rcases h with h | ⟨_, h⟩
    · have h : kdc c = 6 := h
      unfold kdc at h
      split at h
      · omega
      · split at h
        · omega
        · omega
    · exact h rfl
  refine tr_ind (nf := nf) (fp := fp) (P := fun t => ∀ d : Nat, (mkA g o pl t (n + d)).2.length = (mkA g' o' pl' t (n' + d)).2.length ∧ PRp g g' n n' (d + (mkA g o pl t (n + d)).2.length) (mkA g o pl t (n + d)).1 (mkA g' o' pl' t (n' + d)).1 ∧ ∀ (i : Nat) (a b : Th), (mkA g o pl t (n + d)).2[i]? = some a → (mkA g' o' pl' t (n' + d)).2[i]? = some b → PRt g g' n n' (d + (mkA g o pl t (n + d)).2.length) o o' pl pl' a b) ?_ ?_ ?_ (tsz t) t (Nat.le_refl _) hw
  · intro c hc hp d
    rw [mkA_lf, mkA_lf]
    by_cases c10 : c < 10
    · rw [if_pos c10, if_pos c10]
      exact ⟨rfl, Or.inl ⟨c, rfl, rfl⟩, fun i a b h => (by cases h)⟩
    · rw [if_neg c10, if_neg c10]
      refine ⟨rfl, Or.inr (Or.inl ⟨d, by show d < d + 1; omega, rfl, rfl⟩), fun i a b h1 h2 => ?_⟩
      cases i with
      | succ i => cases h1
      | zero =>
        cases h1
        cases h2
        exact ⟨rfl, rfl, rfl, rfl, rfl, Or.inr (Or.inr ⟨rfl, rfl⟩), Or.inr (Or.inr ⟨rfl, rfl⟩), fun hN => absurd hN (nN c _ _ _ (fun e => by
          subst e
          have : prt fp 33 = 1 := rfl
          omega))⟩
  · intro c a hc hp _ ih d
    rw [mkA_un, mkA_un]
    by_cases c33 : c = 33
    · rw [if_pos c33, if_pos c33]
      refine ⟨rfl, Or.inr (Or.inl ⟨d, by show d < d + 1; omega, rfl, rfl⟩), fun i x y h1 h2 => ?_⟩
      cases i with
      | succ i => cases h1
      | zero =>
        cases h1
        cases h2
        exact ⟨rfl, rfl, rfl, rfl, rfl, Or.inr (Or.inr ⟨rfl, rfl⟩), Or.inr (Or.inr ⟨rfl, rfl⟩), fun _ => ⟨rfl, rfl⟩⟩
    · rw [if_neg c33, if_neg c33]
      obtain ⟨i1, i2, i3⟩ := ih (d + 1)
      rw [← Nat.add_assoc, ← Nat.add_assoc] at i1 i2 i3
      obtain ⟨X, hX⟩ : ∃ X, X = mkA g o pl a (n + d + 1) := ⟨_, rfl⟩
      obtain ⟨Y, hY⟩ : ∃ Y, Y = mkA g' o' pl' a (n' + d + 1) := ⟨_, rfl⟩
      rw [← hX, ← hY] at i1 i2 i3 ⊢
      have el : d + ((kdc c, whc c, X.1, none, o, 0, .nil) :: X.2 : List Th).length = d + 1 + X.2.length := by
        rw [List.length_cons]
        omega
      show ((kdc c, whc c, X.1, none, o, 0, .nil) :: X.2 : List Th).length = ((kdc c, whc c, Y.1, none, o', 0, .nil) :: Y.2 : List Th).length ∧ PRp g g' n n' (d + ((kdc c, whc c, X.1, none, o, 0, .nil) :: X.2 : List Th).length) (some (n + d)) (some (n' + d)) ∧ ∀ (i : Nat) (x y : Th), ((kdc c, whc c, X.1, none, o, 0, .nil) :: X.2 : List Th)[i]? = some x → ((kdc c, whc c, Y.1, none, o', 0, .nil) :: Y.2 : List Th)[i]? = some y → PRt g g' n n' (d + ((kdc c, whc c, X.1, none, o, 0, .nil) :: X.2 : List Th).length) o o' pl pl' x y
      rw [el]
      refine ⟨by rw [List.length_cons, List.length_cons, i1], Or.inr (Or.inl ⟨d, by omega, rfl, rfl⟩), fun i x y h1 h2 => ?_⟩
      cases i with
      | succ i => exact i3 i x y h1 h2
      | zero =>
        cases h1
        cases h2
        exact ⟨rfl, rfl, rfl, rfl, rfl, i2, Or.inr (Or.inr ⟨rfl, rfl⟩), fun hN => absurd hN (nN c _ _ _ c33)⟩
  · intro c a b hc hp _ _ ia ib d
    rw [mkA_bi, mkA_bi]
    obtain ⟨i1, i2, i3⟩ := ia (d + 1)
    rw [← Nat.add_assoc, ← Nat.add_assoc] at i1 i2 i3
    obtain ⟨X, hX⟩ : ∃ X, X = mkA g o pl a (n + d + 1) := ⟨_, rfl⟩
    obtain ⟨Y, hY⟩ : ∃ Y, Y = mkA g' o' pl' a (n' + d + 1) := ⟨_, rfl⟩
    rw [← hX, ← hY] at i1 i2 i3 ⊢
    obtain ⟨j1, j2, j3⟩ := ib (d + 1 + X.2.length)
    rw [show n + (d + 1 + X.2.length) = n + d + 1 + X.2.length by omega, show n' + (d + 1 + X.2.length) = n' + d + 1 + Y.2.length by omega] at j1 j2 j3
    obtain ⟨U, hU⟩ : ∃ U, U = mkA g o pl b (n + d + 1 + X.2.length) := ⟨_, rfl⟩
    obtain ⟨V, hV⟩ : ∃ V, V = mkA g' o' pl' b (n' + d + 1 + Y.2.length) := ⟨_, rfl⟩
    rw [← hU, ← hV] at j1 j2 j3 ⊢
    have el : d + ((kdc c, whc c, X.1, U.1, o, 0, .nil) :: (X.2 ++ U.2) : List Th).length = d + 1 + X.2.length + U.2.length := by
      rw [List.length_cons, List.length_append]
      omega
    show ((kdc c, whc c, X.1, U.1, o, 0, .nil) :: (X.2 ++ U.2) : List Th).length = ((kdc c, whc c, Y.1, V.1, o', 0, .nil) :: (Y.2 ++ V.2) : List Th).length ∧ PRp g g' n n' (d + ((kdc c, whc c, X.1, U.1, o, 0, .nil) :: (X.2 ++ U.2) : List Th).length) (some (n + d)) (some (n' + d)) ∧ ∀ (i : Nat) (x y : Th), ((kdc c, whc c, X.1, U.1, o, 0, .nil) :: (X.2 ++ U.2) : List Th)[i]? = some x → ((kdc c, whc c, Y.1, V.1, o', 0, .nil) :: (Y.2 ++ V.2) : List Th)[i]? = some y → PRt g g' n n' (d + ((kdc c, whc c, X.1, U.1, o, 0, .nil) :: (X.2 ++ U.2) : List Th).length) o o' pl pl' x y
    rw [el]
    refine ⟨by rw [List.length_cons, List.length_cons, List.length_append, List.length_append, i1, j1], Or.inr (Or.inl ⟨d, by omega, rfl, rfl⟩), fun i x y h1 h2 => ?_⟩
    cases i with
    | zero =>
      cases h1
      cases h2
      exact ⟨rfl, rfl, rfl, rfl, rfl, i2.more (by omega), j2, fun hN => absurd hN (nN c _ _ _ (fun e => by
        subst e
        have : prt fp 33 = 1 := rfl
        omega))⟩
    | succ i =>
      have h1 : (X.2 ++ U.2)[i]? = some x := h1
      have h2 : (Y.2 ++ V.2)[i]? = some y := h2
      by_cases w : i < X.2.length
      · rw [List.getElem?_append_left w] at h1
        rw [List.getElem?_append_left (by omega)] at h2
        exact (i3 i x y h1 h2).more (by omega)
      · rw [List.getElem?_append_right (by omega)] at h1
        rw [List.getElem?_append_right (by omega), ← i1] at h2
        exact j3 _ x y h1 h2
